/-! THE REFERENCE'S NAMES -/
theorem oN_bv (n : Nat) : (Int32.ofNat n).toBitVec = BitVec.ofNat 32 n := rfl
theorem nm_mk {p l : Nat} (hp : p ≤ 8192) (hl : l < 32) : (Int32.ofNat p <<< ((5 : Int32) &&& 31)) ||| Int32.ofNat l = Int32.ofNat (32 * p + l) := by
  have e5 : ((5 : Int32) &&& 31) = 5 := by decide
  rw [e5]
  apply Int32.toBitVec_inj.mp
  rw [Int32.toBitVec_or, Int32.toBitVec_shiftLeft, oN_bv, oN_bv, oN_bv]
  apply BitVec.eq_of_toNat_eq
  rw [show ((5 : Int32).toBitVec.smod 32) = 5#32 from by decide]
  simp only [BitVec.toNat_or, BitVec.shiftLeft_eq', BitVec.toNat_shiftLeft, BitVec.toNat_ofNat]
  rw [Nat.mod_eq_of_lt (show p < 2 ^ 32 by omega), Nat.mod_eq_of_lt (show l < 2 ^ 32 by omega), Nat.mod_eq_of_lt (show 32 * p + l < 2 ^ 32 by omega), show (5 : Nat) % 2 ^ 32 = 5 from rfl, Nat.shiftLeft_eq, Nat.mod_eq_of_lt (show p * 2 ^ 5 < 2 ^ 32 by omega), ← Nat.shiftLeft_eq, ← Nat.shiftLeft_add_eq_or_of_lt (show l < 2 ^ 5 by omega), Nat.shiftLeft_eq]
  omega
theorem nm_l {p l : Nat} (hp : p ≤ 8192) (hl : l < 32) : Int32.ofNat (32 * p + l) &&& (31 : Int32) = Int32.ofNat l := by
  apply Int32.toBitVec_inj.mp
  rw [Int32.toBitVec_and, oN_bv, oN_bv]
  apply BitVec.eq_of_toNat_eq
  rw [show (31 : Int32).toBitVec = 31#32 from rfl]
  simp only [BitVec.toNat_and, BitVec.toNat_ofNat]
  rw [Nat.mod_eq_of_lt (show l < 2 ^ 32 by omega), Nat.mod_eq_of_lt (show 32 * p + l < 2 ^ 32 by omega), show (31 : Nat) % 2 ^ 32 = 2 ^ 5 - 1 from rfl, Nat.and_two_pow_sub_one_eq_mod]
  omega
theorem nm_p {p l : Nat} (hp : p ≤ 8192) (hl : l < 32) : Int32.ofNat (32 * p + l) >>> ((5 : Int32) &&& 31) = Int32.ofNat p := by
  have e5 : ((5 : Int32) &&& 31) = 5 := by decide
  rw [e5]
  apply Int32.toBitVec_inj.mp
  rw [Int32.toBitVec_shiftRight, oN_bv, oN_bv]
  rw [show ((5 : Int32).toBitVec.smod 32) = 5#32 from by decide]
  apply BitVec.eq_of_toInt_eq
  rw [BitVec.sshiftRight_eq', BitVec.toInt_sshiftRight]
  rw [show (BitVec.ofNat 32 (32 * p + l)).toInt = ((32 * p + l : Nat) : Int) from by
    rw [BitVec.toInt_eq_toNat_of_lt]
    · rw [BitVec.toNat_ofNat, Nat.mod_eq_of_lt (by omega)]
    · rw [BitVec.toNat_ofNat, Nat.mod_eq_of_lt (by omega)]; omega]
  rw [show (BitVec.ofNat 32 p).toInt = ((p : Nat) : Int) from by
    rw [BitVec.toInt_eq_toNat_of_lt]
    · rw [BitVec.toNat_ofNat, Nat.mod_eq_of_lt (by omega)]
    · rw [BitVec.toNat_ofNat, Nat.mod_eq_of_lt (by omega)]; omega]
  rw [show (5#32).toNat = 5 from rfl, Int.shiftRight_eq_div_pow]
  omega
/-- the name at a is nm -/
def NmIs (σ : Sg) (a : Nat) (nm : List Int32) : Prop := σ.i a 1 = Int32.ofNat nm.length ∧ nm.length ≤ 16 ∧ ∀ k y, nm[k]? = some y → σ.i (a + 1) k = y
/-- the name that stands at p in the text -/
def txN (t : Nat → Int32) (p l : Nat) : List Int32 := (List.range l).map fun k => t (p + k)
theorem txN_len (t : Nat → Int32) (p l : Nat) : (txN t p l).length = l := by
  unfold txN
  rw [List.length_map, List.length_range]
theorem txN_get (t : Nat → Int32) (p : Nat) {l k : Nat} (h : k < l) : (txN t p l)[k]? = some (t (p + k)) := rg_get _ h
section NAMES
variable {Z : zT} {d p l a : Nat} {σ : Sg} {K : kS} {t : Nat → Int32} {nm : List Int32}
theorem ni_13 (F : FX ΦR σ.sh σ.r) (p0 : sh0R[a]? = some (Sh.obj 20)) (hN : NmIs σ a nm) (ht : ∀ k, k < 8192 → σ.i 37 k = t k) (hl : nm.length = l) (hp : p + l ≤ 8192) (h1 : nm = txN t p l → K (.inl (some (.int 1))) σ) (h0 : ¬ nm = txN t p l → K (.inl (some (.int 0))) σ) : ∀ m k, l - k = m → k ≤ l → (∀ i, i < k → nm[i]? = some (t (p + i))) → B_X19_is_13 Z (d + 1) σ a 37 (Int32.ofNat p) (Int32.ofNat l) (Int32.ofNat k) K := by
  obtain ⟨n1, n2, n3⟩ := hN
  intro m
  induction m with
  | zero =>
    intro k hm hk hi
    have e : k = l := by omega
    subst e
    refine S_X19_is_13 F p0 ⟨fun _ => h1 ?_, fun q => absurd (Int32.le_refl _) q⟩
    refine List.ext_getElem? fun i => ?_
    by_cases g : i < k
    · rw [hi i g, txN_get t p g]
    · rw [List.getElem?_eq_none (by omega), List.getElem?_eq_none (by rw [txN_len]; omega)]
  | succ m ih =>
    intro k hm hk hi
    have hlt : k < nm.length := by omega
    have e1 : σ.i (a + 1) (Int32.ofNat k).toNatClampNeg = nm[k] := by
      rw [oN_t (by omega)]
      exact n3 k _ (List.getElem?_eq_getElem hlt)
    have e2 : σ.i 37 (Int32.ofNat p + Int32.ofNat k).toNatClampNeg = t (p + k) := by
      rw [oN_add, oN_t (by omega), ht _ (by omega)]
    refine S_X19_is_13 F p0 ⟨fun q => ?_, fun _ => ⟨ib_oN (by omega) (by decide), 8192, F.s s0_37, ?_, fun q => ?_, fun q => h0 fun z => q ?_⟩⟩
    · exfalso
      rw [oN_le (by omega) (by omega)] at q
      omega
    · rw [oN_add]
      exact ib_oN (by omega) (by decide)
    · rw [e1, e2] at q
      rw [oN_1]
      refine ih (k + 1) (by omega) (by omega) fun i hik => ?_
      by_cases g : i < k
      · exact hi i g
      · rw [show i = k by omega, List.getElem?_eq_getElem hlt, q]
    · rw [e1, e2]
      have := txN_get t p (show k < l by omega)
      rw [← z, List.getElem?_eq_getElem hlt] at this
      exact Option.some.inj this
theorem rf_nis (F : FX ΦR σ.sh σ.r) (p0 : sh0R[a]? = some (Sh.obj 20)) (hN : NmIs σ a nm) (ht : ∀ k, k < 8192 → σ.i 37 k = t k) (hl : l < 32) (hp : p + l ≤ 8192) (h1 : nm = txN t p l → K (.inl (some (.int 1))) σ) (h0 : ¬ nm = txN t p l → K (.inl (some (.int 0))) σ) : B_X19_is_0 Z (d + 1) σ a 37 (Int32.ofNat p) (Int32.ofNat l) K := by
  have n2 := hN.2.1
  refine S_X19_is_0 F p0 ⟨fun q => ?_, fun q => h0 fun z => q ?_⟩
  · rw [hN.1, oN_eq (by omega) (by omega)] at q
    exact ni_13 F p0 hN ht q.symm hp h1 h0 l 0 rfl (Nat.zero_le _) fun i h => absurd h (Nat.not_lt_zero _)
  · rw [hN.1, z, txN_len]
theorem rf_isName (F : FX ΦR σ.sh σ.r) (p0 : sh0R[a]? = some (Sh.obj 20)) (hN : NmIs σ a nm) (ht : ∀ k, k < 8192 → σ.i 37 k = t k) (hl : l < 32) (hp : p + l ≤ 8192) (h1 : nm = txN t p l → K (.inl (some (.int 1))) σ) (h0 : ¬ nm = txN t p l → K (.inl (some (.int 0))) σ) : B_X23_isName_0 Z (d + 2) σ a (Int32.ofNat (32 * p + l)) K := by
  refine S_X23_isName_0 (d := d + 1) F ⟨p0, ?_⟩
  rw [nm_p (by omega) hl, nm_l (by omega) hl]
  exact rf_nis F p0 hN ht hl hp (fun h => ⟨rfl, h1 h⟩) (fun h => ⟨rfl, h0 h⟩)
theorem rf_kindNamed {ns : List (List Int32)} (F : FX ΦR σ.sh σ.r) (hc : σ.i 0 4 = Int32.ofNat ns.length) (hns : ns.length ≤ 24) (hN : ∀ k nm, ns[k]? = some nm → NmIs σ ((2193 + 9 * k) + 1) nm) (ht : ∀ k, k < 8192 → σ.i 37 k = t k) (hl : l < 32) (hp : p + l ≤ 8192) (h1 : ∀ k, ns[k]? = some (txN t p l) → (∀ j, j < k → ns[j]? ≠ some (txN t p l)) → K (.inl (some (.int (Int32.ofNat k)))) σ) (h0 : txN t p l ∉ ns → K (.inl (some (.int (-1)))) σ) : B_X23_kindNamed_0 Z (d + 3) σ (Int32.ofNat (32 * p + l)) K := by
  have loop : ∀ m k, ns.length - k = m → k ≤ ns.length → (∀ j, j < k → ns[j]? ≠ some (txN t p l)) → B_X23_kindNamed_2 Z (d + 3) σ (Int32.ofNat (32 * p + l)) (Int32.ofNat k) K := by
    intro m
    induction m with
    | zero =>
      intro k hm hk hi
      have e : k = ns.length := by omega
      subst e
      refine S_X23_kindNamed_2 (d := d + 2) F ⟨fun _ => h0 fun z => ?_, fun q => absurd (by rw [hc]; exact Int32.le_refl _) q⟩
      obtain ⟨i, hi2, e⟩ := List.mem_iff_getElem.mp z
      exact hi i hi2 (by rw [List.getElem?_eq_getElem hi2, e])
    | succ m ih =>
      intro k hm hk hi
      have hlt : k < ns.length := by omega
      have e1 : ns[k]? = some ns[k] := List.getElem?_eq_getElem hlt
      refine S_X23_kindNamed_2 (d := d + 2) F ⟨fun q => ?_, fun _ => ⟨ib_oN (by omega) (by decide), ?_⟩⟩
      · exfalso
        rw [hc, oN_le (by omega) (by omega)] at q
        omega
      · rw [oN_t (by omega)]
        refine rf_isName F (kF_18_1 (kE_1 (show k < 24 by omega))) (hN k _ e1) ht hl hp (fun h => ⟨fun z => absurd z (by decide), fun _ => h1 k (by rw [e1, h]) hi⟩) (fun h => ⟨fun _ => ?_, fun z => absurd rfl z⟩)
        rw [oN_1]
        refine ih (k + 1) (by omega) (by omega) fun j hj z => ?_
        by_cases g : j < k
        · exact hi j g z
        · rw [show j = k by omega, e1] at z
          exact h (Option.some.inj z)
  exact S_X23_kindNamed_0 (d := d + 2) F (loop ns.length 0 rfl (Nat.zero_le _) fun j h => absurd h (Nat.not_lt_zero _))
theorem rf_callNamed {ns : List (List Int32)} (F : FX ΦR σ.sh σ.r) (hc : σ.i 0 5 = Int32.ofNat ns.length) (hns : ns.length ≤ 24) (hN : ∀ k nm, ns[k]? = some nm → NmIs σ ((2409 + 3 * k) + 1) nm) (ht : ∀ k, k < 8192 → σ.i 37 k = t k) (hl : l < 32) (hp : p + l ≤ 8192) (h1 : ∀ k, ns[k]? = some (txN t p l) → (∀ j, j < k → ns[j]? ≠ some (txN t p l)) → K (.inl (some (.int (Int32.ofNat k)))) σ) (h0 : txN t p l ∉ ns → K (.inl (some (.int (-1)))) σ) : B_X23_callNamed_0 Z (d + 3) σ (Int32.ofNat (32 * p + l)) K := by
  have loop : ∀ m k, ns.length - k = m → k ≤ ns.length → (∀ j, j < k → ns[j]? ≠ some (txN t p l)) → B_X23_callNamed_2 Z (d + 3) σ (Int32.ofNat (32 * p + l)) (Int32.ofNat k) K := by
    intro m
    induction m with
    | zero =>
      intro k hm hk hi
      have e : k = ns.length := by omega
      subst e
      refine S_X23_callNamed_2 (d := d + 2) F ⟨fun _ => h0 fun z => ?_, fun q => absurd (by rw [hc]; exact Int32.le_refl _) q⟩
      obtain ⟨i, hi2, e⟩ := List.mem_iff_getElem.mp z
      exact hi i hi2 (by rw [List.getElem?_eq_getElem hi2, e])
    | succ m ih =>
      intro k hm hk hi
      have hlt : k < ns.length := by omega
      have e1 : ns[k]? = some ns[k] := List.getElem?_eq_getElem hlt
      refine S_X23_callNamed_2 (d := d + 2) F ⟨fun q => ?_, fun _ => ⟨ib_oN (by omega) (by decide), ?_⟩⟩
      · exfalso
        rw [hc, oN_le (by omega) (by omega)] at q
        omega
      · rw [oN_t (by omega)]
        refine rf_isName F (kF_14_1 (kE_2 (show k < 24 by omega))) (hN k _ e1) ht hl hp (fun h => ⟨fun z => absurd z (by decide), fun _ => h1 k (by rw [e1, h]) hi⟩) (fun h => ⟨fun _ => ?_, fun z => absurd rfl z⟩)
        rw [oN_1]
        refine ih (k + 1) (by omega) (by omega) fun j hj z => ?_
        by_cases g : j < k
        · exact hi j g z
        · rw [show j = k by omega, e1] at z
          exact h (Option.some.inj z)
  exact S_X23_callNamed_0 (d := d + 2) F (loop ns.length 0 rfl (Nat.zero_le _) fun j h => absurd h (Nat.not_lt_zero _))
theorem rf_layerNamed {ns : List (List Int32)} (F : FX ΦR σ.sh σ.r) (hc : σ.i 0 7 = Int32.ofNat ns.length) (hns : ns.length ≤ 8) (hN : ∀ k nm, ns[k]? = some nm → NmIs σ (2481 + 2 * k) nm) (ht : ∀ k, k < 8192 → σ.i 37 k = t k) (hl : l < 32) (hp : p + l ≤ 8192) (h1 : ∀ k, ns[k]? = some (txN t p l) → (∀ j, j < k → ns[j]? ≠ some (txN t p l)) → K (.inl (some (.int (Int32.ofNat k)))) σ) (h0 : txN t p l ∉ ns → K (.inl (some (.int (-1)))) σ) : B_X23_layerNamed_0 Z (d + 3) σ (Int32.ofNat (32 * p + l)) K := by
  have loop : ∀ m k, ns.length - k = m → k ≤ ns.length → (∀ j, j < k → ns[j]? ≠ some (txN t p l)) → B_X23_layerNamed_2 Z (d + 3) σ (Int32.ofNat (32 * p + l)) (Int32.ofNat k) K := by
    intro m
    induction m with
    | zero =>
      intro k hm hk hi
      have e : k = ns.length := by omega
      subst e
      refine S_X23_layerNamed_2 (d := d + 2) F ⟨fun _ => h0 fun z => ?_, fun q => absurd (by rw [hc]; exact Int32.le_refl _) q⟩
      obtain ⟨i, hi2, e⟩ := List.mem_iff_getElem.mp z
      exact hi i hi2 (by rw [List.getElem?_eq_getElem hi2, e])
    | succ m ih =>
      intro k hm hk hi
      have hlt : k < ns.length := by omega
      have e1 : ns[k]? = some ns[k] := List.getElem?_eq_getElem hlt
      refine S_X23_layerNamed_2 (d := d + 2) F ⟨fun q => ?_, fun _ => ⟨ib_oN (by omega) (by decide), ?_⟩⟩
      · exfalso
        rw [hc, oN_le (by omega) (by omega)] at q
        omega
      · rw [oN_t (by omega)]
        refine rf_isName F (kE_4 (show k < 8 by omega)) (hN k _ e1) ht hl hp (fun h => ⟨fun z => absurd z (by decide), fun _ => h1 k (by rw [e1, h]) hi⟩) (fun h => ⟨fun _ => ?_, fun z => absurd rfl z⟩)
        rw [oN_1]
        refine ih (k + 1) (by omega) (by omega) fun j hj z => ?_
        by_cases g : j < k
        · exact hi j g z
        · rw [show j = k by omega, e1] at z
          exact h (Option.some.inj z)
  exact S_X23_layerNamed_0 (d := d + 2) F (loop ns.length 0 rfl (Nat.zero_le _) fun j h => absurd h (Nat.not_lt_zero _))
end NAMES

/-! THE REFERENCE: atoms, explore() -/
theorem i64_neg {x : Int64} (h : -9223372036854775808 < x.toInt) : (-x).toInt = -x.toInt := by
  have := Int64.toInt_lt x
  have := Int64.le_toInt x
  rw [Int64.toInt_neg, Int.bmod_def]
  omega
theorem ar63 (x : Int64) : x >>> (Int32.toInt64 (63 : Int32) &&& 63) = if x.toInt < 0 then -1 else 0 := by
  have e : (Int32.toInt64 (63 : Int32) &&& 63) = 63 := by decide
  have e2 : ((63 : Int64).toBitVec.smod 64) = 63#64 := by decide
  have h1 := Int64.toInt_lt x
  have h2 := Int64.le_toInt x
  rw [e]
  apply Int64.toInt_inj.mp
  have e3 : (x >>> (63 : Int64)).toInt = x.toInt >>> 63 := by
    show (x >>> (63 : Int64)).toBitVec.toInt = _
    rw [Int64.toBitVec_shiftRight, e2, BitVec.sshiftRight_eq', BitVec.toInt_sshiftRight]
    rfl
  rw [e3, Int.shiftRight_eq_div_pow]
  split
  · rename_i h
    rw [show (-1 : Int64).toInt = -1 from rfl]
    omega
  · rw [show (0 : Int64).toInt = 0 from rfl]
    omega
theorem lr63 (x : Int64) : (Int64.toUInt64 x >>> ((Int32.toInt64 (63 : Int32)).toUInt64 &&& Int64.toUInt64 63)).toInt64 = if x.toInt < 0 then 1 else 0 := by
  have e : ((Int32.toInt64 (63 : Int32)).toUInt64 &&& Int64.toUInt64 63) = 63 := by decide
  have h1 := Int64.toInt_lt x
  have h2 := Int64.le_toInt x
  rw [e]
  have e3 : (Int64.toUInt64 x >>> (63 : UInt64)).toNat = x.toUInt64.toNat / 2 ^ 63 := by
    rw [UInt64.toNat_shiftRight, Nat.shiftRight_eq_div_pow]
    rfl
  have e4 : x.toInt = if 2 * x.toUInt64.toNat < 2 ^ 64 then (x.toUInt64.toNat : Int) else (x.toUInt64.toNat : Int) - 2 ^ 64 := by
    show x.toBitVec.toInt = _
    rw [BitVec.toInt_eq_toNat_cond]
    rfl
  have hb : x.toUInt64.toNat < 2 ^ 64 := x.toUInt64.toNat_lt
  by_cases h : x.toInt < 0
  · rw [if_pos h]
    have : Int64.toUInt64 x >>> (63 : UInt64) = 1 := by
      apply UInt64.toNat_inj.mp
      rw [e3]
      split at e4 <;> (rw [show (1 : UInt64).toNat = 1 from rfl]; omega)
    rw [this]
    rfl
  · rw [if_neg h]
    have : Int64.toUInt64 x >>> (63 : UInt64) = 0 := by
      apply UInt64.toNat_inj.mp
      rw [e3]
      split at e4 <;> (rw [show (0 : UInt64).toNat = 0 from rfl]; omega)
    rw [this]
    rfl
theorem sg_eq {x : Int64} (h : -9223372036854775808 < x.toInt) : Int64.toInt32 ((x >>> (Int32.toInt64 (63 : Int32) &&& 63)) ||| ((Int64.toUInt64 ((-x)) >>> ((Int32.toInt64 (63 : Int32)).toUInt64 &&& Int64.toUInt64 63)).toInt64)) = Int32.ofInt (sg3 x.toInt) := by
  rw [ar63, lr63, i64_neg h]
  unfold sg3
  by_cases h1 : x.toInt < 0
  · rw [if_pos h1, if_pos h1, if_neg (by omega)]
    decide
  · rw [if_neg h1, if_neg h1]
    by_cases h2 : x.toInt = 0
    · rw [if_pos h2, if_neg (by omega)]
      decide
    · rw [if_neg h2, if_pos (by omega)]
      decide
def AtF (σ τ : Sg) : Prop := τ.sh = σ.sh ∧ τ.r = σ.r ∧ (∀ a k, a ≠ 1933 → a ≠ 1934 → ¬ (a = 0 ∧ k = 47) → τ.i a k = σ.i a k) ∧ ∀ a, a ≠ 1936 → τ.l a = σ.l a
theorem AtF.refl (σ : Sg) : AtF σ σ := ⟨rfl, rfl, fun _ _ _ _ _ => rfl, fun _ _ => rfl⟩
theorem AtF.tr {σ τ υ : Sg} (h : AtF σ τ) (g : AtF τ υ) : AtF σ υ := ⟨g.1.trans h.1, g.2.1.trans h.2.1, fun a k h1 h2 h3 => (g.2.2.1 a k h1 h2 h3).trans (h.2.2.1 a k h1 h2 h3), fun a ha => (g.2.2.2 a ha).trans (h.2.2.2 a ha)⟩
theorem AtF.row {σ τ : Sg} (h : AtF σ τ) {a : Nat} (h0 : a ≠ 0) (h1 : a ≠ 1933) (h2 : a ≠ 1934) : τ.i a = σ.i a := funext fun k => h.2.2.1 a k h1 h2 (fun q => h0 q.1)
/-- the comparisons, as they lie there -/
def AtS (σ : Sg) (L : List (Nat × Nat × Int)) : Prop := σ.i 0 47 = Int32.ofNat L.length ∧ ∀ (i : Nat) A B C, L[i]? = some (A, B, C) → σ.i 1933 i = Int32.ofNat A ∧ σ.i 1934 i = Int32.ofNat B ∧ (σ.l 1936 i).toInt = C
section ATOMS
variable {Z : zT} {kn pl : Nat} {σ τ : Sg} {K : kS} {A : Nat → Prop} {L : List (Nat × Nat × Int)}
theorem ts_nn {x : Ast} (hW : tsW kn pl x) : ¬ x.isNil = true := by
  refine ts_ind (P := fun x => ¬ x.isNil = true) ?_ ?_ ?_ ?_ x hW
  · intro v w pb mo _ _ _ _ z
    cases z
  · intro v w _ _ z
    cases z
  · intro op v w a b _ _ _ _ _ z
    cases z
  · intro v w a _ _ z
    cases z
theorem rf_atom {d a b : Nat} {c : Int64} (F : FX ΦR σ.sh σ.r) (H : AtS σ L) (hL : L.length < 128) (h : ∀ τ, AtF σ τ → AtS τ (L ++ [(a, b, c.toInt)]) → K (.inl none) τ) : B_X23_atom_0 Z (d + 1) σ (Int32.ofNat a) (Int32.ofNat b) c K := by
  obtain ⟨h1, h2⟩ := H
  have e : (σ.i 0 47).toNatClampNeg = L.length := by rw [h1, oN_t (by omega)]
  have hb : ib (σ.i 0 47) 128 := by
    rw [h1]
    exact ib_oN hL (by decide)
  refine S_X23_atom_0 F ⟨hb, hb, hb, h _ ⟨rfl, rfl, fun x k q1 q2 q3 => ?_, fun x hx => ?_⟩ ⟨?_, fun i A B C hi => ?_⟩⟩
  · rw [wi_ne q3]
    show ((σ.wi 1933 _ _).wi 1934 _ _).i x k = _
    rw [wi_ne (fun z => q2 z.1), wi_ne (fun z => q1 z.1)]
  · show (((σ.wi 1933 _ _).wi 1934 _ _).wl 1936 _ _).l x = _
    exact funext fun j => by rw [wl_l, if_neg (fun z => hx z.1)]; rfl
  · rw [wi_at, h1, oN_1, List.length_append]
    rfl
  · rw [e, wi_ne (by omega), wi_ne (by omega)]
    show ((σ.wi 1933 L.length (Int32.ofNat a)).wi 1934 L.length (Int32.ofNat b)).i 1933 i = _ ∧ ((σ.wi 1933 L.length (Int32.ofNat a)).wi 1934 L.length (Int32.ofNat b)).i 1934 i = _ ∧ ((((σ.wi 1933 L.length (Int32.ofNat a)).wi 1934 L.length (Int32.ofNat b)).wl 1936 L.length c).l 1936 i).toInt = C
    rw [wi_ne (by omega)]
    by_cases hlt : i < L.length
    · rw [List.getElem?_append_left hlt] at hi
      obtain ⟨g1, g2, g3⟩ := h2 i A B C hi
      rw [wi_ne (by omega), wi_ne (by omega), wi_ne (by omega), wl_l, if_neg (by omega)]
      exact ⟨g1, g2, g3⟩
    · rw [List.getElem?_append_right (by omega)] at hi
      have hi0 : i = L.length := by
        have := (List.getElem?_eq_some_iff.mp hi).1
        have : i - L.length < 1 := this
        omega
      subst hi0
      rw [Nat.sub_self] at hi
      cases hi
      rw [wi_at, wi_at, wl_l, if_pos ⟨rfl, rfl⟩]
      exact ⟨rfl, rfl, rfl⟩
theorem oI_1 {w : Int} (h : -1 ≤ w) : Int32.ofInt w + 1 = Int32.ofNat (w + 1).toNat := by
  have e : Int32.ofNat (w + 1).toNat = Int32.ofInt (w + 1) := by
    rw [show (w + 1) = (((w + 1).toNat : Nat) : Int) by omega]
    rfl
  rw [e, Int32.ofInt_add]
  rfl
theorem i64_oI {z : Int} (h1 : -9223372036854775808 ≤ z) (h2 : z ≤ 9223372036854775807) : (Int64.ofInt z).toInt = z := by
  rw [Int64.toInt_ofInt, Int.bmod_def, show (Int64.size : Int) = 18446744073709551616 from rfl]
  omega
theorem rf_atoms (x : Ast) (hW : tsW kn pl x) : ∀ (d : Nat) (σ : Sg) (r : Rf) (K : kS) (L : List (Nat × Nat × Int)), tH x + 2 ≤ d → FX ΦR σ.sh σ.r → TsN σ A x r → AtS σ L → L.length + (atL x).length ≤ 128 → (∀ τ, AtF σ τ → AtS τ (L ++ atL x) → K (.inl none) τ) → B_X23_atoms_0 Z d σ r K := by
  refine ts_ind (kn := kn) (pl := pl) (P := fun x => ∀ (d : Nat) (σ : Sg) (r : Rf) (K : kS) (L : List (Nat × Nat × Int)), tH x + 2 ≤ d → FX ΦR σ.sh σ.r → TsN σ A x r → AtS σ L → L.length + (atL x).length ≤ 128 → (∀ τ, AtF σ τ → AtS τ (L ++ atL x) → K (.inl none) τ) → B_X23_atoms_0 Z d σ r K) ?_ ?_ ?_ ?_ x hW
  · intro v w pb mo hv hw hp hm d σ r K L hd F T H hL h
    rw [tH_2] at hd
    obtain ⟨d, rfl⟩ : ∃ e, d = e + 2 := ⟨d - 2, by omega⟩
    rw [TsN_aN] at T
    obtain ⟨b, rfl, -, hs, ho, hrest⟩ := T
    have hb := nd_ge F hs
    obtain ⟨⟨-, l9, pb', mo', el, l10, l11⟩, l5, l6⟩ : leafC σ b v w (.nest pb (.nest mo .nil)) ∧ σ.r b 5 = Rf.nul ∧ σ.r b 6 = Rf.nul := by
      rcases hrest with ⟨-, q⟩ | ⟨q, -⟩ | ⟨q, -⟩
      · exact q
      · omega
      · omega
    cases el
    have ho : σ.i b 0 = 8 := ho
    refine S_X23_atoms_0 F ⟨b, rfl, hs, fun q => absurd ho q, fun _ => ?_⟩
    rw [l9, l10, l11, oI_1 hw.1, oI_1 hp.1]
    have hL : L.length + 1 ≤ 128 := hL
    refine rf_atom F H (by omega) (fun τ g H2 => ?_)
    have F2 : FX ΦR τ.sh τ.r := by rw [g.1, g.2.1]; exact F
    refine S_X23_atoms_29 F2 ⟨by rw [g.1]; exact hs, fun _ => ⟨fun _ => h τ g ?_, fun q => absurd (by rw [g.2.1]; exact l6) q⟩, fun q => absurd (by rw [g.2.1]; exact l5) q⟩
    rw [i64_oI (by omega) (by omega)] at H2
    exact H2
  · intro v w hv hw d σ r K L hd F T H hL h
    rw [tH_2] at hd
    obtain ⟨d, rfl⟩ : ∃ e, d = e + 2 := ⟨d - 2, by omega⟩
    rw [TsN_aN] at T
    obtain ⟨b, rfl, -, hs, ho, hrest⟩ := T
    obtain ⟨l5, l6⟩ : σ.r b 5 = Rf.nul ∧ σ.r b 6 = Rf.nul := by
      rcases hrest with ⟨q, -⟩ | ⟨-, -, -, q⟩ | ⟨q, -⟩
      · omega
      · exact q
      · omega
    have ho : σ.i b 0 = 9 := ho
    refine S_X23_atoms_0 F ⟨b, rfl, hs, fun _ => ?_, fun q => absurd (ho.symm.trans q) (by decide)⟩
    refine S_X23_atoms_29 F ⟨hs, fun _ => ⟨fun _ => h σ (AtF.refl σ) ?_, fun q => absurd l6 q⟩, fun q => absurd l5 q⟩
    rw [show L ++ atL (aN 9 v w .nil .nil .nil) = L from List.append_nil _]
    exact H
  · intro op v w a b' hop wa wb iha ihb d σ r K L hd F T H hL h
    rw [tH_2] at hd
    obtain ⟨d, rfl⟩ : ∃ e, d = e + 2 := ⟨d - 2, by omega⟩
    rw [TsN_aN] at T
    obtain ⟨b, rfl, -, hs, ho, hrest⟩ := T
    have hb := nd_ge F hs
    obtain ⟨Ta, Tb⟩ : TsN σ A a (σ.r b 5) ∧ TsN σ A b' (σ.r b 6) := by
      rcases hrest with ⟨q, -⟩ | ⟨q, -⟩ | ⟨-, q1, q2⟩
      · omega
      · omega
      · exact ⟨q1, q2⟩
    have eL : atL (aN op v w a b' .nil) = atL a ++ atL b' := by
      rw [atL_2, if_neg (by omega), if_neg (by omega)]
    rw [eL, List.length_append] at hL
    rw [eL] at h
    have n5 : ¬ σ.r b 5 = Rf.nul := fun q => ts_nn wa ((ts_nil Ta).mp q)
    have n6 : ¬ σ.r b 6 = Rf.nul := fun q => ts_nn wb ((ts_nil Tb).mp q)
    have ho8 : ¬ σ.i b 0 = 8 := fun q => by
      rw [ho] at q
      rcases hop with rfl | rfl <;> exact absurd q (by decide)
    refine S_X23_atoms_0 F ⟨b, rfl, hs, fun _ => ?_, fun q => absurd q ho8⟩
    refine S_X23_atoms_29 F ⟨hs, fun q => absurd q n5, fun _ => ?_⟩
    refine iha (d + 1) σ _ _ L (by omega) F Ta H (by omega) (fun τ g H2 => ?_)
    have F2 : FX ΦR τ.sh τ.r := by rw [g.1, g.2.1]; exact F
    refine ⟨by rw [g.1]; exact hs, fun q => absurd (by rw [← g.2.1]; exact q) n6, fun _ => ?_⟩
    refine ihb (d + 1) τ _ _ (L ++ atL a) (by omega) F2 ?_ H2 (by rw [List.length_append]; omega) (fun υ g2 H3 => ?_)
    · rw [g.2.1]
      exact TsN.mono (fun y hy hys => ⟨hy, by rw [g.1]; exact hys, g.row (by have := nd_ge F hys; omega) (by have := nd_ge F hys; omega) (by have := nd_ge F hys; omega), g.2.2.2 y (by have := nd_ge F hys; omega), by rw [g.2.1]⟩) _ _ Tb
    · rw [List.append_assoc] at H3
      exact h υ (g.tr g2) H3
  · intro v w a wa iha d σ r K L hd F T H hL h
    rw [tH_2] at hd
    obtain ⟨d, rfl⟩ : ∃ e, d = e + 2 := ⟨d - 2, by omega⟩
    rw [TsN_aN] at T
    obtain ⟨b, rfl, -, hs, ho, hrest⟩ := T
    obtain ⟨Ta, Tb⟩ : TsN σ A a (σ.r b 5) ∧ TsN σ A .nil (σ.r b 6) := by
      rcases hrest with ⟨q, -⟩ | ⟨q, -⟩ | ⟨-, q1, q2⟩
      · omega
      · omega
      · exact ⟨q1, q2⟩
    have Tb : σ.r b 6 = Rf.nul := Tb
    have eL : atL (aN 22 v w a .nil .nil) = atL a := by
      rw [atL_2, if_neg (by omega), if_neg (by omega)]
      exact List.append_nil _
    rw [eL] at hL h
    have n5 : ¬ σ.r b 5 = Rf.nul := fun q => ts_nn wa ((ts_nil Ta).mp q)
    have ho : σ.i b 0 = 22 := ho
    refine S_X23_atoms_0 F ⟨b, rfl, hs, fun _ => ?_, fun q => absurd (ho.symm.trans q) (by decide)⟩
    refine S_X23_atoms_29 F ⟨hs, fun q => absurd q n5, fun _ => ?_⟩
    refine iha (d + 1) σ _ _ L (by omega) F Ta H (by omega) (fun τ g H2 => ?_)
    exact ⟨by rw [g.1]; exact hs, fun _ => h τ g H2, fun q => absurd (by rw [g.2.1]; exact Tb) q⟩
end ATOMS
/-! PURE: methods that are asked together -/
/-- number, specs, test -/
abbrev Ask : Type := Nat × List Spc × Ast
def InR (v : Nat → Int) : Prop := ∀ i, i < 3 → -2147483648 ≤ v i ∧ v i ≤ 2147483647
def atA (pl : Nat) (as : List Ask) : List (Nat × Nat × Int) := as.flatMap fun y => atM pl y.2.1 y.2.2
/-- who of the first j takes v -/
def mkV (pl : Nat) (bl : Nat → Nat → Bool) (k : Nat → Nat) (as : List Ask) (v : Nat → Int) : Nat → Nat
  | 0 => 0
  | j + 1 => mkV pl bl k as v j + if ((as[j]?).map fun y => tkM pl y.2.1 bl k y.2.2 v).getD false = true then 2 ^ j else 0
theorem atA_take (pl : Nat) (as : List Ask) {j : Nat} {y : Ask} (h : as[j]? = some y) : atA pl (as.take (j + 1)) = atA pl (as.take j) ++ atM pl y.2.1 y.2.2 := by
  unfold atA
  rw [List.take_add_one, h]
  show List.flatMap _ (as.take j ++ [y]) = _
  rw [List.flatMap_append]
  congr 1
  exact List.append_nil _
theorem atA_pre (pl : Nat) (as : List Ask) (j : Nat) : ∃ r, atA pl as = atA pl (as.take j) ++ r := by
  refine ⟨atA pl (as.drop j), ?_⟩
  unfold atA
  rw [← List.flatMap_append, List.take_append_drop]
theorem OcV.sub {oc : Nat → Int} {at' c : Nat} {v : Nat → Int} {L M N : List (Nat × Nat × Int)} (h : OcV oc at' v (L ++ M ++ N) c) : OcV oc at' v M (c + L.length) := (h.l).r

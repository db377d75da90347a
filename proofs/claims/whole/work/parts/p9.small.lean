/-! THE CLASS: its small calls -/
abbrev xIo : String := "java/lang/IndexOutOfBoundsException"
abbrev xIa : String := "java/lang/IllegalArgumentException"
abbrev xIs : String := "java/lang/IllegalStateException"
section SMALLC
variable {Z : zT} {d : Nat} {B : Nat × Nat × Nat × Nat × Nat} {C V V' : Nat × Nat × Nat × Nat} {a u u' A m ver : Nat} {W : Wld} {pg pg' : Ast} {t t' : Nat → Int32} {n n' wy ch ch' fuel fuel' rs : Nat} {rn rn' : Option (Rs × Es)} {res res' : List Nat} {q : Nat} {σ τ υ : Sg} {K : kS} {E : Nat → Prop} {S : Es} {e1 e2 : String}
theorem cc_1 (h : ClA W pg t n wy ch fuel rs rn res q σ) (hK : CAns K (ClA W pg t n wy ch fuel rs rn res (q + 1)) e1 e2 (.inl 1)) : K (.inr (e1, σ.sh.length)) (σ.al (Sh.jnk 6)) := hK _ _ h.al
theorem cc_2 (h : ClA W pg t n wy ch fuel rs rn res q σ) (hK : CAns K (ClA W pg t n wy ch fuel rs rn res (q + 1)) e1 e2 (.inl 2)) : K (.inr (e2, σ.sh.length)) (σ.al (Sh.jnk 6)) := hK _ _ h.al
/-- only the house's own words are written -/
theorem ClX.k0 (h : ClX B C V a u A m ver W pg t n wy ch fuel rs rn res q σ) (g : XF (fun b => b = 0) σ τ) (hn : n' ≤ n) (h9 : τ.i 0 9 = Int32.ofNat n') (h10 : τ.i 0 10 = σ.i 0 10) (h11 : τ.i 0 11 = Int32.ofNat ch' ∧ ch' ≤ 3) (h12 : τ.i 0 12 = Int32.ofNat fuel' ∧ 1 ≤ fuel' ∧ fuel' ≤ 100000) (h13 : τ.i 0 13 = σ.i 0 13) : ClX B C V a u A m ver W pg t n' wy ch' fuel' rs rn res (q + 1) τ := by
  have F := h.fx
  have gk := g.kp
  obtain ⟨-, -, -, ⟨ne, wh⟩, -, -, ⟨-, -, tx, -⟩, ⟨-, -, c3, c4⟩, ⟨-, r1, r2⟩, -, rm⟩ := id h
  have sq := ne.sq
  obtain ⟨x1, x2, x3, x4, x5⟩ := tx.kp gk (by have := tx.2.2.2.2; omega)
  refine h.kp gk (fun b hb z => Or.inl z) ⟨ne.kp F gk (fun b _ z => by omega), wh.kp F gk (fun b _ z => by omega)⟩ ⟨⟨x1, ⟨by omega, by omega, x2.2.2⟩, fun k hk => x3 k (by omega), x4, x5⟩, h9⟩ ⟨h11, h12, h13.trans c3⟩ c4 ⟨r1.kp F gk (fun b _ z => by omega), r2.kp F gk h10 (fun b _ z => by omega)⟩ (Nat.le_succ _) ?_
  rw [g.1, sdN_g (g.2.2 46 (by omega)).1]
  exact rm.up
theorem cc_end {v : Int32} (h8 : 8 ≤ d) (h : ClA W pg t n wy ch fuel rs rn res q σ) (hK : CAns K (ClA W pg t (enN n v) wy ch fuel rs rn res (q + 1)) xIa xIa (enA n v)) : C_X12_end_0 Z (d + 1) σ v K := by
  have h0 := h
  obtain ⟨B, C, V, a, u, A, m, ver, h⟩ := h
  obtain ⟨-, -, -, -, -, -, ⟨-, -, tx, h9⟩, ⟨c1, c2, c3, -⟩, -⟩ := id h
  have nn := tx.2.1.2.1
  have lv : v ≤ Int32.ofNat n ↔ v.toInt ≤ n := by rw [Int32.le_iff_toInt_le, oN_i (by omega)]
  unfold enA enN at hK
  refine T_X12_end_0 h.fx h8 ⟨fun z => ?_, fun z => ⟨fun z2 => ?_, fun z2 => ?_⟩⟩
  · rw [i32_lt0] at z
    rw [if_neg (by omega), if_neg (by omega)] at hK
    exact cc_1 h0 hK
  · rw [i32_lt0] at z
    rw [h9, lv] at z2
    rw [if_pos (by omega), if_pos (by omega)] at hK
    refine hK _ ⟨B, C, V, a, u, A, m, ver, h.k0 ((XF.refl _ _).wi (a := 0) rfl) (by omega) (by rw [wi_at]; exact i_oN (by omega)) (wi_ne (by decide)) ⟨(wi_ne (by decide)).trans c1.1, c1.2⟩ ⟨(wi_ne (by decide)).trans c2.1, c2.2⟩ (wi_ne (by decide))⟩
  · rw [i32_lt0] at z
    rw [h9, lv] at z2
    rw [if_neg (by omega), if_neg (by omega)] at hK
    exact cc_1 h0 hK
theorem cc_count {v : Int32} (h8 : 8 ≤ d) (h : ClA W pg t n wy ch fuel rs rn res q σ) (hK : CAns K (ClA W pg t n wy ch fuel rs rn res (q + 1)) xIa xIa (coA W n rs res v)) : C_X12_count_0 Z (d + 1) σ v K := by
  have h0 := h
  have hu := h.up
  obtain ⟨B, C, V, a, u, A, m, ver, h⟩ := h
  obtain ⟨k1, -, -, -, -, -, ⟨-, -, tx, h9⟩, ⟨c1, c2, c3, -⟩, ⟨h40, r1, r2⟩, -⟩ := id h
  unfold coA at hK
  refine T_X12_count_0 h.fx h8 ⟨fun z => ?_, fun z => ?_, fun z => ?_, fun z => ?_, fun z => ?_, fun z => ?_, fun z => ?_, fun z0 z1 z2 z3 z4 z5 z6 => ?_⟩
  · rw [if_pos z] at hK
    rw [k1.1.2.2.2.2.1.1]
    exact hK _ hu
  · rw [if_neg (by rw [z]; decide), if_pos z] at hK
    rw [k1.1.2.2.2.2.2.1.1]
    exact hK _ hu
  · rw [if_neg (by rw [z]; decide), if_neg (by rw [z]; decide), if_pos z] at hK
    rw [k1.2.2.2.1.1]
    exact hK _ hu
  · rw [if_neg (by rw [z]; decide), if_neg (by rw [z]; decide), if_neg (by rw [z]; decide), if_pos z] at hK
    rw [k1.1.2.2.2.2.2.2.1]
    exact hK _ hu
  · rw [if_neg (by rw [z]; decide), if_neg (by rw [z]; decide), if_neg (by rw [z]; decide), if_neg (by rw [z]; decide), if_pos z] at hK
    rw [h40]
    exact hK _ hu
  · rw [if_neg (by rw [z]; decide), if_neg (by rw [z]; decide), if_neg (by rw [z]; decide), if_neg (by rw [z]; decide), if_neg (by rw [z]; decide), if_pos z] at hK
    rw [r2.1, oN_2]
    exact hK _ hu
  · rw [if_neg (by rw [z]; decide), if_neg (by rw [z]; decide), if_neg (by rw [z]; decide), if_neg (by rw [z]; decide), if_neg (by rw [z]; decide), if_neg (by rw [z]; decide), if_pos z] at hK
    rw [h9]
    exact hK _ hu
  · rw [if_neg z0, if_neg z1, if_neg z2, if_neg z3, if_neg z4, if_neg z5, if_neg z6] at hK
    exact cc_1 h0 hK
theorem RnM.es (h : RnM rn σ) : MeS (rnE rn) σ ∧ σ.i 83 14 = Int32.ofNat (rnE rn).1 := by
  rcases rn with _ | r
  · exact ⟨h.2.2.2, h.2.2.1⟩
  · exact ⟨h.1, h.2.1⟩
theorem RnM.how (h : RnM rn σ) : σ.i 83 11 = rnH rn := by
  rcases rn with _ | ⟨v | v | v, S⟩
  · exact h.1
  · exact h.2.2.1
  · exact h.2.2.1
  · exact h.2.2.1
theorem RnM.val (h : RnM rn σ) : (σ.i 83 12 = 0 ∧ rnK rn = -1 ∧ rnN rn = 0) ∨ (¬ σ.i 83 12 = 0 ∧ kdV (σ.l 83 13) = rnK rn ∧ nmV (σ.l 83 13) = rnN rn) := by
  rcases rn with _ | ⟨v | v | v, S⟩
  · exact Or.inl ⟨h.2.1, rfl, rfl⟩
  · exact Or.inr ⟨by rw [h.2.2.2.1]; decide, by rw [h.2.2.2.2]; rfl, by rw [h.2.2.2.2]; rfl⟩
  · exact Or.inr ⟨by rw [h.2.2.2.1]; decide, by rw [h.2.2.2.2]; rfl, by rw [h.2.2.2.2]; rfl⟩
  · exact Or.inl ⟨h.2.2.2.1, kd_vl _ _, nm_vl _ _⟩
theorem cc_told {v : Int32} (h8 : 8 ≤ d) (h : ClA W pg t n wy ch fuel rs rn res q σ) (hK : CAns K (ClA W pg t n wy ch fuel rs rn res (q + 1)) xIa xIa (toA rn v)) : C_X12_told_0 Z (d + 2) σ v K := by
  have h0 := h
  have hu := h.up
  obtain ⟨B, C, V, a, u, A, m, ver, h⟩ := h
  obtain ⟨-, -, -, -, -, -, -, -, ⟨-, r1, -⟩, -⟩ := id h
  obtain ⟨⟨s1, s2, s3, s4⟩, s5⟩ := r1.es
  have hw := r1.how
  have hv := r1.val
  unfold toA at hK
  refine T_X12_told_0 h.fx (by omega) ⟨fun z => ?_, fun z => ⟨fun y => ?_, fun y => ?_⟩, fun z => ⟨fun y => ?_, fun y => ?_⟩, fun z => ?_, fun z => ?_, fun z => ?_, fun z => ?_, fun z0 z1 z2 z3 z4 z5 z6 => ?_⟩
  · rw [if_pos z] at hK
    rw [hw]
    exact hK _ hu
  · rw [if_neg (by rw [z]; decide), if_pos z] at hK
    rcases hv with ⟨-, v2, -⟩ | ⟨v1, -⟩
    · rw [v2] at hK
      exact hK _ hu
    · exact absurd y v1
  · rw [if_neg (by rw [z]; decide), if_pos z] at hK
    rcases hv with ⟨v1, -⟩ | ⟨-, v2, -⟩
    · exact absurd v1 y
    · refine T_X4_kindOf_0 h.fx ?_
      rw [← v2] at hK
      exact hK _ hu
  · rw [if_neg (by rw [z]; decide), if_neg (by rw [z]; decide), if_pos z] at hK
    rcases hv with ⟨-, -, v2⟩ | ⟨v1, -⟩
    · rw [v2] at hK
      exact hK _ hu
    · exact absurd y v1
  · rw [if_neg (by rw [z]; decide), if_neg (by rw [z]; decide), if_pos z] at hK
    rcases hv with ⟨v1, -⟩ | ⟨-, -, v2⟩
    · exact absurd v1 y
    · rw [← v2] at hK
      exact hK _ hu
  · rw [if_neg (by rw [z]; decide), if_neg (by rw [z]; decide), if_neg (by rw [z]; decide), if_pos z] at hK
    rw [s5]
    exact hK _ hu
  · rw [if_neg (by rw [z]; decide), if_neg (by rw [z]; decide), if_neg (by rw [z]; decide), if_neg (by rw [z]; decide), if_pos z] at hK
    rw [s2.1]
    exact hK _ hu
  · rw [if_neg (by rw [z]; decide), if_neg (by rw [z]; decide), if_neg (by rw [z]; decide), if_neg (by rw [z]; decide), if_neg (by rw [z]; decide), if_pos z] at hK
    rw [s3]
    exact hK _ hu
  · rw [if_neg (by rw [z]; decide), if_neg (by rw [z]; decide), if_neg (by rw [z]; decide), if_neg (by rw [z]; decide), if_neg (by rw [z]; decide), if_neg (by rw [z]; decide), if_pos z] at hK
    rw [s1]
    exact hK _ hu
  · rw [if_neg z0, if_neg z1, if_neg z2, if_neg z3, if_neg z4, if_neg z5, if_neg z6] at hK
    exact cc_1 h0 hK
theorem cc_shown {v : Int32} (h8 : 8 ≤ d) (h : ClA W pg t n wy ch fuel rs rn res q σ) (hK : CAns K (ClA W pg t n wy ch fuel rs rn res (q + 1)) xIo xIo (shA rn v)) : C_X12_shown_0 Z (d + 1) σ v K := by
  have h0 := h
  have hu := h.up
  obtain ⟨B, C, V, a, u, A, m, ver, h⟩ := h
  obtain ⟨-, -, -, -, -, -, -, -, ⟨-, r1, -⟩, -⟩ := id h
  obtain ⟨⟨-, ⟨E1, E2, E3⟩, -⟩, -⟩ := r1.es
  unfold shA at hK
  refine T_X12_shown_0 h.fx h8 ⟨fun z => ?_, fun z => ⟨fun z2 => ⟨?_, ?_⟩, fun z2 => ?_⟩⟩
  · rw [i32_lt0] at z
    rw [if_neg (by omega)] at hK
    exact cc_1 h0 hK
  · rw [i32_lt0] at z
    rw [E1, Int32.lt_iff_toInt_lt, oN_i (by omega)] at z2
    exact ib_i (by omega) (by omega)
  · rw [i32_lt0] at z
    rw [E1, Int32.lt_iff_toInt_lt, oN_i (by omega)] at z2
    rw [if_pos (by omega)] at hK
    have hx : (rnE rn).2.2.1[v.toInt.toNat]? = some ((rnE rn).2.2.1.getD v.toInt.toNat 0) := by
      rw [List.getD_eq_getElem?_getD, List.getElem?_eq_getElem (by omega)]
      rfl
    rw [show v.toNatClampNeg = v.toInt.toNat from rfl, E3 _ _ hx]
    exact hK _ hu
  · rw [i32_lt0] at z
    rw [E1, Int32.lt_iff_toInt_lt, oN_i (by omega)] at z2
    rw [if_neg (by omega)] at hK
    exact cc_1 h0 hK
theorem cc_ran (h8 : 8 ≤ d) (hb : (rnE rn).2.2.2.1 ≤ 1000000) (h : ClA W pg t n wy ch fuel rs rn res q σ) (hK : CAns K (ClA W pg t n wy ch fuel rs rn (raR rn res) (q + 1)) xIs xIs (raA rn)) : C_X12_ran_0 Z (d + 1) σ K := by
  have h0 := h
  obtain ⟨B, C, V, a, u, A, m, ver, h⟩ := h
  have F := h.fx
  obtain ⟨-, -, -, ⟨ne, wh⟩, -, -, ⟨-, -, tx, h9⟩, ⟨c1, c2, c3, c4⟩, ⟨-, r1, r2⟩, -, rm⟩ := id h
  obtain ⟨⟨s1, s2, s3, s4, s6⟩, s5⟩ := r1.es
  have hw := r1.how
  refine T_X12_ran_0 F h8 ?_
  rw [hw]
  rcases rn with _ | ⟨r, S⟩
  · exact ⟨fun z => absurd z (by decide), fun _ => cc_1 h0 hK⟩
  · have hh : 0 ≤ rnH (some (r, S)) := by
      rcases r with v | v | v
      · show (0 : Int32) ≤ Int32.ofNat 0
        decide
      · show (0 : Int32) ≤ Int32.ofNat 1
        decide
      · have := r1.2.2.2.2
        show (0 : Int32) ≤ Int32.ofNat v
        rcases this with rfl | rfl <;> decide
    refine ⟨fun _ => ?_, fun z => absurd hh z⟩
    have s3 : σ.i 83 18 = Int32.ofNat S.2.2.2.1 := s3
    have s4 : S.2.2.2.2.length = min S.2.2.2.1 512 := s4
    have hb : S.2.2.2.1 ≤ 1000000 := hb
    have em : (if (512 : Int32) < σ.i 83 18 then (512 : Int32) else σ.i 83 18) = Int32.ofNat S.2.2.2.2.length := by
      rw [s3, show (512 : Int32) = Int32.ofNat 512 from rfl]
      by_cases z : 512 < S.2.2.2.1
      · rw [if_pos ((oN_lt (by decide) (by omega)).mpr z), s4, Nat.min_eq_right (by omega)]
      · rw [if_neg (fun y => z ((oN_lt (by decide) (by omega)).mp y)), s4, Nat.min_eq_left (by omega)]
    have l512 : S.2.2.2.2.length ≤ 512 := by omega
    rw [em, oN_t (by omega), oN_2]
    refine ⟨⟨?_, by decide, by decide, ?_, ?_⟩, ?_⟩
    · rw [show Int32.ofNat S.2.2.2.2.length < 0 ↔ S.2.2.2.2.length < 0 from oN_lt (b := 0) (by omega) (by decide)]
      omega
    · rw [oN_t (by omega)]
      show 0 + _ ≤ 512
      omega
    · rw [oN_t (by omega)]
      show 0 + _ ≤ 512
      omega
    · obtain ⟨τ, hτ⟩ : ∃ y, y = ((σ.wi 0 10 (Int32.ofNat S.2.2.2.2.length)).cpI 97 ((0 : Int32).toNatClampNeg) 98 ((0 : Int32).toNatClampNeg) S.2.2.2.2.length) := ⟨_, rfl⟩
      rw [← hτ]
      have ei : ∀ b k, ¬ (b = 98 ∧ k < S.2.2.2.2.length) → ¬ (b = 0 ∧ k = 10) → τ.i b k = σ.i b k := fun b k z1 z2 => by
        rw [hτ]
        show (if b = 98 ∧ 0 ≤ k ∧ k < 0 + S.2.2.2.2.length then (σ.wi 0 10 (Int32.ofNat S.2.2.2.2.length)).i 97 (0 + (k - 0)) else (σ.wi 0 10 (Int32.ofNat S.2.2.2.2.length)).i b k) = _
        rw [if_neg (by omega), wi_ne z2]
      have e98 : ∀ k, k < S.2.2.2.2.length → τ.i 98 k = σ.i 97 k := fun k hk => by
        rw [hτ]
        show (if 98 = 98 ∧ 0 ≤ k ∧ k < 0 + S.2.2.2.2.length then (σ.wi 0 10 (Int32.ofNat S.2.2.2.2.length)).i 97 (0 + (k - 0)) else (σ.wi 0 10 (Int32.ofNat S.2.2.2.2.length)).i 98 k) = _
        rw [if_pos (by omega), wi_ne (by omega), Nat.zero_add, Nat.sub_zero]
      have e10 : τ.i 0 10 = Int32.ofNat S.2.2.2.2.length := by
        rw [hτ]
        show (if 0 = 98 ∧ 0 ≤ 10 ∧ 10 < 0 + S.2.2.2.2.length then (σ.wi 0 10 (Int32.ofNat S.2.2.2.2.length)).i 97 (0 + (10 - 0)) else (σ.wi 0 10 (Int32.ofNat S.2.2.2.2.length)).i 0 10) = _
        rw [if_neg (by omega), wi_at]
      have g : XF (fun b => b = 0 ∨ b = 98) σ τ := by
        refine ⟨by rw [hτ]; rfl, by rw [hτ]; rfl, fun b z => ⟨funext fun k => ei b k (by omega) (by omega), by rw [hτ]; rfl⟩⟩
      have gk := g.kp
      have sh : τ.sh = σ.sh := g.1
      have sq := ne.sq
      refine hK τ ⟨B, C, V, a, u, A, m, ver, h.kp gk (fun b _ z => by omega) ⟨ne.kp F gk (fun b _ z => by omega), wh.kp F gk (fun b _ z => by omega)⟩ ⟨tx.kp gk (by have := tx.2.2.2.2; omega), (ei 0 9 (by omega) (by omega)).trans h9⟩ ⟨⟨(ei 0 11 (by omega) (by omega)).trans c1.1, c1.2⟩, ⟨(ei 0 12 (by omega) (by omega)).trans c2.1, c2.2⟩, (ei 0 13 (by omega) (by omega)).trans c3⟩ c4 ⟨r1.kp F gk (fun b _ z => by omega), e10, l512, fun k x hx => ?_⟩ (Nat.le_succ _) (by rw [sh, sdN_g (g.2.2 46 (by omega)).1]; exact rm.up)⟩
      have hk := (List.getElem?_eq_some_iff.mp hx).1
      have hk : k < S.2.2.2.2.length := hk
      rw [e98 k hk]
      exact s6 k x hx
end SMALLC

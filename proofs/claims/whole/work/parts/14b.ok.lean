theorem okc_13 (O : Nat → Option FieldType) (X : ab_X) (M : ab_MI) (h1 : ab_mo M = 13) (h2 : (ab_my M).cls = RX13) : ab_OKc (hb_Gx O X) hb_TB M := by
  intro ix sort y na ci h
  rw [h1] at h
  exact hb_T13_ok O X ix sort y na ci h M h1 h2
theorem okm_13 (O : Nat → Option FieldType) (X : ab_X) (M : ab_MI) (h1 : ab_mo M = 13) (h2 : (ab_my M).cls = RX13) (hc : Cond.code (ab_my M) (ab_mc M) (ab_mL M) (ab_mr M) ∈ hb_TB) (hl : ab_mL M ≤ 21) (hi : ab_mi M = true → (ab_my M).name = "<init>") : ab_OKm (hb_Gx O X) hb_TB M := by
  refine ⟨hc, by rw [h2]; decide +kernel, hl, hi, ?_, ?_, ?_, ?_⟩
  · rw [h1, h2]
    exact hb_F13_ok _
  · rw [h1, h2]
    exact hb_C13_ok
  · rw [h1, h2]
    exact hb_I13_ok
  · rw [h1, h2]
    exact hb_L13_ok
theorem ok_mX13_init (O : Nat → Option FieldType) (X : ab_X) : ab_OKm (hb_Gx O X) hb_TB mX13_init ∧ ab_OKc (hb_Gx O X) hb_TB mX13_init := ⟨okm_13 O X _ rfl rfl (hb_w8 203 ⟨rfl, rfl⟩) (by decide) (fun _ => rfl), okc_13 O X _ rfl rfl⟩
theorem hb_N13_0 (O : Nat → Option FieldType) (X : ab_X) : ∀ M ∈ [mX13_init], ab_OKm (hb_Gx O X) hb_TB M ∧ ab_OKc (hb_Gx O X) hb_TB M := List.forall_mem_cons.mpr ⟨ok_mX13_init O X, fun _ h => absurd h List.not_mem_nil⟩
theorem hb_N13_ok (O : Nat → Option FieldType) (X : ab_X) : ∀ M ∈ hb_N13, ab_OKm (hb_Gx O X) hb_TB M ∧ ab_OKc (hb_Gx O X) hb_TB M := by
  intro M h
  have h : M ∈ [mX13_init] := h
  exact hb_N13_0 O X M h
theorem okc_14 (O : Nat → Option FieldType) (X : ab_X) (M : ab_MI) (h1 : ab_mo M = 14) (h2 : (ab_my M).cls = RX14) : ab_OKc (hb_Gx O X) hb_TB M := by
  intro ix sort y na ci h
  rw [h1] at h
  exact hb_T14_ok O X ix sort y na ci h M h1 h2
theorem okm_14 (O : Nat → Option FieldType) (X : ab_X) (M : ab_MI) (h1 : ab_mo M = 14) (h2 : (ab_my M).cls = RX14) (hc : Cond.code (ab_my M) (ab_mc M) (ab_mL M) (ab_mr M) ∈ hb_TB) (hl : ab_mL M ≤ 21) (hi : ab_mi M = true → (ab_my M).name = "<init>") : ab_OKm (hb_Gx O X) hb_TB M := by
  refine ⟨hc, by rw [h2]; decide +kernel, hl, hi, ?_, ?_, ?_, ?_⟩
  · rw [h1, h2]
    exact hb_F14_ok _
  · rw [h1, h2]
    exact hb_C14_ok
  · rw [h1, h2]
    exact hb_I14_ok
  · rw [h1, h2]
    exact hb_L14_ok
theorem ok_mX14_init (O : Nat → Option FieldType) (X : ab_X) : ab_OKm (hb_Gx O X) hb_TB mX14_init ∧ ab_OKc (hb_Gx O X) hb_TB mX14_init := ⟨okm_14 O X _ rfl rfl (hb_w9 76 ⟨rfl, rfl⟩) (by decide) (fun _ => rfl), okc_14 O X _ rfl rfl⟩
theorem hb_N14_0 (O : Nat → Option FieldType) (X : ab_X) : ∀ M ∈ [mX14_init], ab_OKm (hb_Gx O X) hb_TB M ∧ ab_OKc (hb_Gx O X) hb_TB M := List.forall_mem_cons.mpr ⟨ok_mX14_init O X, fun _ h => absurd h List.not_mem_nil⟩
theorem hb_N14_ok (O : Nat → Option FieldType) (X : ab_X) : ∀ M ∈ hb_N14, ab_OKm (hb_Gx O X) hb_TB M ∧ ab_OKc (hb_Gx O X) hb_TB M := by
  intro M h
  have h : M ∈ [mX14_init] := h
  exact hb_N14_0 O X M h
theorem okc_15 (O : Nat → Option FieldType) (X : ab_X) (M : ab_MI) (h1 : ab_mo M = 15) (h2 : (ab_my M).cls = RX15) : ab_OKc (hb_Gx O X) hb_TB M := by
  intro ix sort y na ci h
  rw [h1] at h
  exact hb_T15_ok O X ix sort y na ci h M h1 h2
theorem okm_15 (O : Nat → Option FieldType) (X : ab_X) (M : ab_MI) (h1 : ab_mo M = 15) (h2 : (ab_my M).cls = RX15) (hc : Cond.code (ab_my M) (ab_mc M) (ab_mL M) (ab_mr M) ∈ hb_TB) (hl : ab_mL M ≤ 21) (hi : ab_mi M = true → (ab_my M).name = "<init>") : ab_OKm (hb_Gx O X) hb_TB M := by
  refine ⟨hc, by rw [h2]; decide +kernel, hl, hi, ?_, ?_, ?_, ?_⟩
  · rw [h1, h2]
    exact hb_F15_ok _
  · rw [h1, h2]
    exact hb_C15_ok
  · rw [h1, h2]
    exact hb_I15_ok
  · rw [h1, h2]
    exact hb_L15_ok
theorem ok_mX15_init (O : Nat → Option FieldType) (X : ab_X) : ab_OKm (hb_Gx O X) hb_TB mX15_init ∧ ab_OKc (hb_Gx O X) hb_TB mX15_init := ⟨okm_15 O X _ rfl rfl (hb_w9 68 ⟨rfl, rfl⟩) (by decide) (fun _ => rfl), okc_15 O X _ rfl rfl⟩
theorem hb_N15_0 (O : Nat → Option FieldType) (X : ab_X) : ∀ M ∈ [mX15_init], ab_OKm (hb_Gx O X) hb_TB M ∧ ab_OKc (hb_Gx O X) hb_TB M := List.forall_mem_cons.mpr ⟨ok_mX15_init O X, fun _ h => absurd h List.not_mem_nil⟩
theorem hb_N15_ok (O : Nat → Option FieldType) (X : ab_X) : ∀ M ∈ hb_N15, ab_OKm (hb_Gx O X) hb_TB M ∧ ab_OKc (hb_Gx O X) hb_TB M := by
  intro M h
  have h : M ∈ [mX15_init] := h
  exact hb_N15_0 O X M h
theorem okc_16 (O : Nat → Option FieldType) (X : ab_X) (M : ab_MI) (h1 : ab_mo M = 16) (h2 : (ab_my M).cls = RX16) : ab_OKc (hb_Gx O X) hb_TB M := by
  intro ix sort y na ci h
  rw [h1] at h
  exact hb_T16_ok O X ix sort y na ci h M h1 h2
theorem okm_16 (O : Nat → Option FieldType) (X : ab_X) (M : ab_MI) (h1 : ab_mo M = 16) (h2 : (ab_my M).cls = RX16) (hc : Cond.code (ab_my M) (ab_mc M) (ab_mL M) (ab_mr M) ∈ hb_TB) (hl : ab_mL M ≤ 21) (hi : ab_mi M = true → (ab_my M).name = "<init>") : ab_OKm (hb_Gx O X) hb_TB M := by
  refine ⟨hc, by rw [h2]; decide +kernel, hl, hi, ?_, ?_, ?_, ?_⟩
  · rw [h1, h2]
    exact hb_F16_ok _
  · rw [h1, h2]
    exact hb_C16_ok
  · rw [h1, h2]
    exact hb_I16_ok
  · rw [h1, h2]
    exact hb_L16_ok
theorem ok_mX16_init (O : Nat → Option FieldType) (X : ab_X) : ab_OKm (hb_Gx O X) hb_TB mX16_init ∧ ab_OKc (hb_Gx O X) hb_TB mX16_init := ⟨okm_16 O X _ rfl rfl (hb_w9 45 ⟨rfl, rfl⟩) (by decide) (fun _ => rfl), okc_16 O X _ rfl rfl⟩
theorem hb_N16_0 (O : Nat → Option FieldType) (X : ab_X) : ∀ M ∈ [mX16_init], ab_OKm (hb_Gx O X) hb_TB M ∧ ab_OKc (hb_Gx O X) hb_TB M := List.forall_mem_cons.mpr ⟨ok_mX16_init O X, fun _ h => absurd h List.not_mem_nil⟩
theorem hb_N16_ok (O : Nat → Option FieldType) (X : ab_X) : ∀ M ∈ hb_N16, ab_OKm (hb_Gx O X) hb_TB M ∧ ab_OKc (hb_Gx O X) hb_TB M := by
  intro M h
  have h : M ∈ [mX16_init] := h
  exact hb_N16_0 O X M h
theorem okc_17 (O : Nat → Option FieldType) (X : ab_X) (M : ab_MI) (h1 : ab_mo M = 17) (h2 : (ab_my M).cls = RX17) : ab_OKc (hb_Gx O X) hb_TB M := by
  intro ix sort y na ci h
  rw [h1] at h
  exact hb_T17_ok O X ix sort y na ci h M h1 h2
theorem okm_17 (O : Nat → Option FieldType) (X : ab_X) (M : ab_MI) (h1 : ab_mo M = 17) (h2 : (ab_my M).cls = RX17) (hc : Cond.code (ab_my M) (ab_mc M) (ab_mL M) (ab_mr M) ∈ hb_TB) (hl : ab_mL M ≤ 21) (hi : ab_mi M = true → (ab_my M).name = "<init>") : ab_OKm (hb_Gx O X) hb_TB M := by
  refine ⟨hc, by rw [h2]; decide +kernel, hl, hi, ?_, ?_, ?_, ?_⟩
  · rw [h1, h2]
    exact hb_F17_ok _
  · rw [h1, h2]
    exact hb_C17_ok
  · rw [h1, h2]
    exact hb_I17_ok
  · rw [h1, h2]
    exact hb_L17_ok
theorem ok_mX17_init (O : Nat → Option FieldType) (X : ab_X) : ab_OKm (hb_Gx O X) hb_TB mX17_init ∧ ab_OKc (hb_Gx O X) hb_TB mX17_init := ⟨okm_17 O X _ rfl rfl (hb_w8 161 ⟨rfl, rfl⟩) (by decide) (fun _ => rfl), okc_17 O X _ rfl rfl⟩
theorem ok_mX17_place (O : Nat → Option FieldType) (X : ab_X) : ab_OKm (hb_Gx O X) hb_TB mX17_place ∧ ab_OKc (hb_Gx O X) hb_TB mX17_place := ⟨okm_17 O X _ rfl rfl (hb_w9 135 ⟨rfl, rfl⟩) (by decide) (fun h => by cases h), okc_17 O X _ rfl rfl⟩
theorem hb_N17_0 (O : Nat → Option FieldType) (X : ab_X) : ∀ M ∈ [mX17_init, mX17_place], ab_OKm (hb_Gx O X) hb_TB M ∧ ab_OKc (hb_Gx O X) hb_TB M := List.forall_mem_cons.mpr ⟨ok_mX17_init O X, List.forall_mem_cons.mpr ⟨ok_mX17_place O X, fun _ h => absurd h List.not_mem_nil⟩⟩
theorem hb_N17_ok (O : Nat → Option FieldType) (X : ab_X) : ∀ M ∈ hb_N17, ab_OKm (hb_Gx O X) hb_TB M ∧ ab_OKc (hb_Gx O X) hb_TB M := by
  intro M h
  have h : M ∈ [mX17_init, mX17_place] := h
  exact hb_N17_0 O X M h
theorem okc_18 (O : Nat → Option FieldType) (X : ab_X) (M : ab_MI) (h1 : ab_mo M = 18) (h2 : (ab_my M).cls = RX18) : ab_OKc (hb_Gx O X) hb_TB M := by
  intro ix sort y na ci h
  rw [h1] at h
  exact hb_T18_ok O X ix sort y na ci h M h1 h2
theorem okm_18 (O : Nat → Option FieldType) (X : ab_X) (M : ab_MI) (h1 : ab_mo M = 18) (h2 : (ab_my M).cls = RX18) (hc : Cond.code (ab_my M) (ab_mc M) (ab_mL M) (ab_mr M) ∈ hb_TB) (hl : ab_mL M ≤ 21) (hi : ab_mi M = true → (ab_my M).name = "<init>") : ab_OKm (hb_Gx O X) hb_TB M := by
  refine ⟨hc, by rw [h2]; decide +kernel, hl, hi, ?_, ?_, ?_, ?_⟩
  · rw [h1, h2]
    exact hb_F18_ok _
  · rw [h1, h2]
    exact hb_C18_ok
  · rw [h1, h2]
    exact hb_I18_ok
  · rw [h1, h2]
    exact hb_L18_ok
theorem ok_mX18_init (O : Nat → Option FieldType) (X : ab_X) : ab_OKm (hb_Gx O X) hb_TB mX18_init ∧ ab_OKc (hb_Gx O X) hb_TB mX18_init := ⟨okm_18 O X _ rfl rfl (hb_w8 224 ⟨rfl, rfl⟩) (by decide) (fun _ => rfl), okc_18 O X _ rfl rfl⟩
theorem ok_mX18_asks (O : Nat → Option FieldType) (X : ab_X) : ab_OKm (hb_Gx O X) hb_TB mX18_asks ∧ ab_OKc (hb_Gx O X) hb_TB mX18_asks := ⟨okm_18 O X _ rfl rfl (hb_w13 106 ⟨rfl, rfl⟩) (by decide) (fun h => by cases h), okc_18 O X _ rfl rfl⟩
theorem hb_N18_0 (O : Nat → Option FieldType) (X : ab_X) : ∀ M ∈ [mX18_init, mX18_asks], ab_OKm (hb_Gx O X) hb_TB M ∧ ab_OKc (hb_Gx O X) hb_TB M := List.forall_mem_cons.mpr ⟨ok_mX18_init O X, List.forall_mem_cons.mpr ⟨ok_mX18_asks O X, fun _ h => absurd h List.not_mem_nil⟩⟩
theorem hb_N18_ok (O : Nat → Option FieldType) (X : ab_X) : ∀ M ∈ hb_N18, ab_OKm (hb_Gx O X) hb_TB M ∧ ab_OKc (hb_Gx O X) hb_TB M := by
  intro M h
  have h : M ∈ [mX18_init, mX18_asks] := h
  exact hb_N18_0 O X M h
theorem okc_19 (O : Nat → Option FieldType) (X : ab_X) (M : ab_MI) (h1 : ab_mo M = 19) (h2 : (ab_my M).cls = RX19) : ab_OKc (hb_Gx O X) hb_TB M := by
  intro ix sort y na ci h
  rw [h1] at h
  exact hb_T19_ok O X ix sort y na ci h M h1 h2
theorem okm_19 (O : Nat → Option FieldType) (X : ab_X) (M : ab_MI) (h1 : ab_mo M = 19) (h2 : (ab_my M).cls = RX19) (hc : Cond.code (ab_my M) (ab_mc M) (ab_mL M) (ab_mr M) ∈ hb_TB) (hl : ab_mL M ≤ 21) (hi : ab_mi M = true → (ab_my M).name = "<init>") : ab_OKm (hb_Gx O X) hb_TB M := by
  refine ⟨hc, by rw [h2]; decide +kernel, hl, hi, ?_, ?_, ?_, ?_⟩
  · rw [h1, h2]
    exact hb_F19_ok _
  · rw [h1, h2]
    exact hb_C19_ok
  · rw [h1, h2]
    exact hb_I19_ok
  · rw [h1, h2]
    exact hb_L19_ok
theorem ok_mX19_init (O : Nat → Option FieldType) (X : ab_X) : ab_OKm (hb_Gx O X) hb_TB mX19_init ∧ ab_OKc (hb_Gx O X) hb_TB mX19_init := ⟨okm_19 O X _ rfl rfl (hb_w8 167 ⟨rfl, rfl⟩) (by decide) (fun _ => rfl), okc_19 O X _ rfl rfl⟩
theorem ok_mX19_be (O : Nat → Option FieldType) (X : ab_X) : ab_OKm (hb_Gx O X) hb_TB mX19_be ∧ ab_OKc (hb_Gx O X) hb_TB mX19_be := ⟨okm_19 O X _ rfl rfl (hb_w11 176 ⟨rfl, rfl⟩) (by decide) (fun h => by cases h), okc_19 O X _ rfl rfl⟩
theorem ok_mX19_be_ (O : Nat → Option FieldType) (X : ab_X) : ab_OKm (hb_Gx O X) hb_TB mX19_be_ ∧ ab_OKc (hb_Gx O X) hb_TB mX19_be_ := ⟨okm_19 O X _ rfl rfl (hb_w9 107 ⟨rfl, rfl⟩) (by decide) (fun h => by cases h), okc_19 O X _ rfl rfl⟩
theorem ok_mX19_is (O : Nat → Option FieldType) (X : ab_X) : ab_OKm (hb_Gx O X) hb_TB mX19_is ∧ ab_OKc (hb_Gx O X) hb_TB mX19_is := ⟨okm_19 O X _ rfl rfl (hb_w11 160 ⟨rfl, rfl⟩) (by decide) (fun h => by cases h), okc_19 O X _ rfl rfl⟩
theorem hb_N19_0 (O : Nat → Option FieldType) (X : ab_X) : ∀ M ∈ [mX19_init, mX19_be, mX19_be_, mX19_is], ab_OKm (hb_Gx O X) hb_TB M ∧ ab_OKc (hb_Gx O X) hb_TB M := List.forall_mem_cons.mpr ⟨ok_mX19_init O X, List.forall_mem_cons.mpr ⟨ok_mX19_be O X, List.forall_mem_cons.mpr ⟨ok_mX19_be_ O X, List.forall_mem_cons.mpr ⟨ok_mX19_is O X, fun _ h => absurd h List.not_mem_nil⟩⟩⟩⟩
theorem hb_N19_ok (O : Nat → Option FieldType) (X : ab_X) : ∀ M ∈ hb_N19, ab_OKm (hb_Gx O X) hb_TB M ∧ ab_OKc (hb_Gx O X) hb_TB M := by
  intro M h
  have h : M ∈ [mX19_init, mX19_be, mX19_be_, mX19_is] := h
  exact hb_N19_0 O X M h
theorem okc_20 (O : Nat → Option FieldType) (X : ab_X) (M : ab_MI) (h1 : ab_mo M = 20) (h2 : (ab_my M).cls = RX20) : ab_OKc (hb_Gx O X) hb_TB M := by
  intro ix sort y na ci h
  rw [h1] at h
  exact hb_T20_ok O X ix sort y na ci h M h1 h2
theorem okm_20 (O : Nat → Option FieldType) (X : ab_X) (M : ab_MI) (h1 : ab_mo M = 20) (h2 : (ab_my M).cls = RX20) (hc : Cond.code (ab_my M) (ab_mc M) (ab_mL M) (ab_mr M) ∈ hb_TB) (hl : ab_mL M ≤ 21) (hi : ab_mi M = true → (ab_my M).name = "<init>") : ab_OKm (hb_Gx O X) hb_TB M := by
  refine ⟨hc, by rw [h2]; decide +kernel, hl, hi, ?_, ?_, ?_, ?_⟩
  · rw [h1, h2]
    exact hb_F20_ok _
  · rw [h1, h2]
    exact hb_C20_ok
  · rw [h1, h2]
    exact hb_I20_ok
  · rw [h1, h2]
    exact hb_L20_ok
theorem ok_mX20_init (O : Nat → Option FieldType) (X : ab_X) : ab_OKm (hb_Gx O X) hb_TB mX20_init ∧ ab_OKc (hb_Gx O X) hb_TB mX20_init := ⟨okm_20 O X _ rfl rfl (hb_w11 237 ⟨rfl, rfl⟩) (by decide) (fun _ => rfl), okc_20 O X _ rfl rfl⟩
theorem ok_mX20_be (O : Nat → Option FieldType) (X : ab_X) : ab_OKm (hb_Gx O X) hb_TB mX20_be ∧ ab_OKc (hb_Gx O X) hb_TB mX20_be := ⟨okm_20 O X _ rfl rfl (hb_w12 130 ⟨rfl, rfl⟩) (by decide) (fun h => by cases h), okc_20 O X _ rfl rfl⟩
theorem hb_N20_0 (O : Nat → Option FieldType) (X : ab_X) : ∀ M ∈ [mX20_init, mX20_be], ab_OKm (hb_Gx O X) hb_TB M ∧ ab_OKc (hb_Gx O X) hb_TB M := List.forall_mem_cons.mpr ⟨ok_mX20_init O X, List.forall_mem_cons.mpr ⟨ok_mX20_be O X, fun _ h => absurd h List.not_mem_nil⟩⟩
theorem hb_N20_ok (O : Nat → Option FieldType) (X : ab_X) : ∀ M ∈ hb_N20, ab_OKm (hb_Gx O X) hb_TB M ∧ ab_OKc (hb_Gx O X) hb_TB M := by
  intro M h
  have h : M ∈ [mX20_init, mX20_be] := h
  exact hb_N20_0 O X M h
theorem okc_21 (O : Nat → Option FieldType) (X : ab_X) (M : ab_MI) (h1 : ab_mo M = 21) (h2 : (ab_my M).cls = RX21) : ab_OKc (hb_Gx O X) hb_TB M := by
  intro ix sort y na ci h
  rw [h1] at h
  exact hb_T21_ok O X ix sort y na ci h M h1 h2
theorem okm_21 (O : Nat → Option FieldType) (X : ab_X) (M : ab_MI) (h1 : ab_mo M = 21) (h2 : (ab_my M).cls = RX21) (hc : Cond.code (ab_my M) (ab_mc M) (ab_mL M) (ab_mr M) ∈ hb_TB) (hl : ab_mL M ≤ 21) (hi : ab_mi M = true → (ab_my M).name = "<init>") : ab_OKm (hb_Gx O X) hb_TB M := by
  refine ⟨hc, by rw [h2]; decide +kernel, hl, hi, ?_, ?_, ?_, ?_⟩
  · rw [h1, h2]
    exact hb_F21_ok _
  · rw [h1, h2]
    exact hb_C21_ok
  · rw [h1, h2]
    exact hb_I21_ok
  · rw [h1, h2]
    exact hb_L21_ok
theorem ok_mX21_init (O : Nat → Option FieldType) (X : ab_X) : ab_OKm (hb_Gx O X) hb_TB mX21_init ∧ ab_OKc (hb_Gx O X) hb_TB mX21_init := ⟨okm_21 O X _ rfl rfl (hb_w8 119 ⟨rfl, rfl⟩) (by decide) (fun _ => rfl), okc_21 O X _ rfl rfl⟩
theorem ok_mX21_get (O : Nat → Option FieldType) (X : ab_X) : ab_OKm (hb_Gx O X) hb_TB mX21_get ∧ ab_OKc (hb_Gx O X) hb_TB mX21_get := ⟨okm_21 O X _ rfl rfl (hb_w11 228 ⟨rfl, rfl⟩) (by decide) (fun h => by cases h), okc_21 O X _ rfl rfl⟩
theorem hb_N21_0 (O : Nat → Option FieldType) (X : ab_X) : ∀ M ∈ [mX21_init, mX21_get], ab_OKm (hb_Gx O X) hb_TB M ∧ ab_OKc (hb_Gx O X) hb_TB M := List.forall_mem_cons.mpr ⟨ok_mX21_init O X, List.forall_mem_cons.mpr ⟨ok_mX21_get O X, fun _ h => absurd h List.not_mem_nil⟩⟩
theorem hb_N21_ok (O : Nat → Option FieldType) (X : ab_X) : ∀ M ∈ hb_N21, ab_OKm (hb_Gx O X) hb_TB M ∧ ab_OKc (hb_Gx O X) hb_TB M := by
  intro M h
  have h : M ∈ [mX21_init, mX21_get] := h
  exact hb_N21_0 O X M h
theorem okc_22 (O : Nat → Option FieldType) (X : ab_X) (M : ab_MI) (h1 : ab_mo M = 22) (h2 : (ab_my M).cls = RX22) : ab_OKc (hb_Gx O X) hb_TB M := by
  intro ix sort y na ci h
  rw [h1] at h
  exact hb_T22_ok O X ix sort y na ci h M h1 h2
theorem okm_22 (O : Nat → Option FieldType) (X : ab_X) (M : ab_MI) (h1 : ab_mo M = 22) (h2 : (ab_my M).cls = RX22) (hc : Cond.code (ab_my M) (ab_mc M) (ab_mL M) (ab_mr M) ∈ hb_TB) (hl : ab_mL M ≤ 21) (hi : ab_mi M = true → (ab_my M).name = "<init>") : ab_OKm (hb_Gx O X) hb_TB M := by
  refine ⟨hc, by rw [h2]; decide +kernel, hl, hi, ?_, ?_, ?_, ?_⟩
  · rw [h1, h2]
    exact hb_F22_ok _
  · rw [h1, h2]
    exact hb_C22_ok
  · rw [h1, h2]
    exact hb_I22_ok
  · rw [h1, h2]
    exact hb_L22_ok
theorem ok_mX22_init (O : Nat → Option FieldType) (X : ab_X) : ab_OKm (hb_Gx O X) hb_TB mX22_init ∧ ab_OKc (hb_Gx O X) hb_TB mX22_init := ⟨okm_22 O X _ rfl rfl (hb_w11 137 ⟨rfl, rfl⟩) (by decide) (fun _ => rfl), okc_22 O X _ rfl rfl⟩
theorem hb_N22_0 (O : Nat → Option FieldType) (X : ab_X) : ∀ M ∈ [mX22_init], ab_OKm (hb_Gx O X) hb_TB M ∧ ab_OKc (hb_Gx O X) hb_TB M := List.forall_mem_cons.mpr ⟨ok_mX22_init O X, fun _ h => absurd h List.not_mem_nil⟩
theorem hb_N22_ok (O : Nat → Option FieldType) (X : ab_X) : ∀ M ∈ hb_N22, ab_OKm (hb_Gx O X) hb_TB M ∧ ab_OKc (hb_Gx O X) hb_TB M := by
  intro M h
  have h : M ∈ [mX22_init] := h
  exact hb_N22_0 O X M h
theorem okc_23 (O : Nat → Option FieldType) (X : ab_X) (M : ab_MI) (h1 : ab_mo M = 23) (h2 : (ab_my M).cls = RX23) : ab_OKc (hb_Gx O X) hb_TB M := by
  intro ix sort y na ci h
  rw [h1] at h
  exact hb_T23_ok O X ix sort y na ci h M h1 h2
theorem okm_23 (O : Nat → Option FieldType) (X : ab_X) (M : ab_MI) (h1 : ab_mo M = 23) (h2 : (ab_my M).cls = RX23) (hc : Cond.code (ab_my M) (ab_mc M) (ab_mL M) (ab_mr M) ∈ hb_TB) (hl : ab_mL M ≤ 21) (hi : ab_mi M = true → (ab_my M).name = "<init>") : ab_OKm (hb_Gx O X) hb_TB M := by
  refine ⟨hc, by rw [h2]; decide +kernel, hl, hi, ?_, ?_, ?_, ?_⟩
  · rw [h1, h2]
    exact hb_F23_ok _
  · rw [h1, h2]
    exact hb_C23_ok
  · rw [h1, h2]
    exact hb_I23_ok
  · rw [h1, h2]
    exact hb_L23_ok
theorem ok_mX23_isName (O : Nat → Option FieldType) (X : ab_X) : ab_OKm (hb_Gx O X) hb_TB mX23_isName ∧ ab_OKc (hb_Gx O X) hb_TB mX23_isName := ⟨okm_23 O X _ rfl rfl (hb_w11 156 ⟨rfl, rfl⟩) (by decide) (fun h => by cases h), okc_23 O X _ rfl rfl⟩
theorem ok_mX23_isSame (O : Nat → Option FieldType) (X : ab_X) : ab_OKm (hb_Gx O X) hb_TB mX23_isSame ∧ ab_OKc (hb_Gx O X) hb_TB mX23_isSame := ⟨okm_23 O X _ rfl rfl (hb_w11 204 ⟨rfl, rfl⟩) (by decide) (fun h => by cases h), okc_23 O X _ rfl rfl⟩
theorem ok_mX23_kindNamed (O : Nat → Option FieldType) (X : ab_X) : ab_OKm (hb_Gx O X) hb_TB mX23_kindNamed ∧ ab_OKc (hb_Gx O X) hb_TB mX23_kindNamed := ⟨okm_23 O X _ rfl rfl (hb_w11 152 ⟨rfl, rfl⟩) (by decide) (fun h => by cases h), okc_23 O X _ rfl rfl⟩
theorem ok_mX23_callNamed (O : Nat → Option FieldType) (X : ab_X) : ab_OKm (hb_Gx O X) hb_TB mX23_callNamed ∧ ab_OKc (hb_Gx O X) hb_TB mX23_callNamed := ⟨okm_23 O X _ rfl rfl (hb_w11 164 ⟨rfl, rfl⟩) (by decide) (fun h => by cases h), okc_23 O X _ rfl rfl⟩
theorem ok_mX23_layerNamed (O : Nat → Option FieldType) (X : ab_X) : ab_OKm (hb_Gx O X) hb_TB mX23_layerNamed ∧ ab_OKc (hb_Gx O X) hb_TB mX23_layerNamed := ⟨okm_23 O X _ rfl rfl (hb_w11 168 ⟨rfl, rfl⟩) (by decide) (fun h => by cases h), okc_23 O X _ rfl rfl⟩
theorem ok_mX23_isTold (O : Nat → Option FieldType) (X : ab_X) : ab_OKm (hb_Gx O X) hb_TB mX23_isTold ∧ ab_OKc (hb_Gx O X) hb_TB mX23_isTold := ⟨okm_23 O X _ rfl rfl (hb_w11 148 ⟨rfl, rfl⟩) (by decide) (fun h => by cases h), okc_23 O X _ rfl rfl⟩
theorem ok_mX23_isBelow (O : Nat → Option FieldType) (X : ab_X) : ab_OKm (hb_Gx O X) hb_TB mX23_isBelow ∧ ab_OKc (hb_Gx O X) hb_TB mX23_isBelow := ⟨okm_23 O X _ rfl rfl (hb_w9 131 ⟨rfl, rfl⟩) (by decide) (fun h => by cases h), okc_23 O X _ rfl rfl⟩
theorem ok_mX23_makeRows (O : Nat → Option FieldType) (X : ab_X) : ab_OKm (hb_Gx O X) hb_TB mX23_makeRows ∧ ab_OKc (hb_Gx O X) hb_TB mX23_makeRows := ⟨okm_23 O X _ rfl rfl (hb_w9 113 ⟨rfl, rfl⟩) (by decide) (fun h => by cases h), okc_23 O X _ rfl rfl⟩
theorem ok_mX23_isFirst (O : Nat → Option FieldType) (X : ab_X) : ab_OKm (hb_Gx O X) hb_TB mX23_isFirst ∧ ab_OKc (hb_Gx O X) hb_TB mX23_isFirst := ⟨okm_23 O X _ rfl rfl (hb_w9 121 ⟨rfl, rfl⟩) (by decide) (fun h => by cases h), okc_23 O X _ rfl rfl⟩
theorem ok_mX23_joined (O : Nat → Option FieldType) (X : ab_X) : ab_OKm (hb_Gx O X) hb_TB mX23_joined ∧ ab_OKc (hb_Gx O X) hb_TB mX23_joined := ⟨okm_23 O X _ rfl rfl (hb_w9 117 ⟨rfl, rfl⟩) (by decide) (fun h => by cases h), okc_23 O X _ rfl rfl⟩
theorem ok_mX23_isLetter (O : Nat → Option FieldType) (X : ab_X) : ab_OKm (hb_Gx O X) hb_TB mX23_isLetter ∧ ab_OKc (hb_Gx O X) hb_TB mX23_isLetter := ⟨okm_23 O X _ rfl rfl (hb_w11 45 ⟨rfl, rfl⟩) (by decide) (fun h => by cases h), okc_23 O X _ rfl rfl⟩
theorem ok_mX23_isDigit (O : Nat → Option FieldType) (X : ab_X) : ab_OKm (hb_Gx O X) hb_TB mX23_isDigit ∧ ab_OKc (hb_Gx O X) hb_TB mX23_isDigit := ⟨okm_23 O X _ rfl rfl (hb_w11 48 ⟨rfl, rfl⟩) (by decide) (fun h => by cases h), okc_23 O X _ rfl rfl⟩
theorem ok_mX23_isHere (O : Nat → Option FieldType) (X : ab_X) : ab_OKm (hb_Gx O X) hb_TB mX23_isHere ∧ ab_OKc (hb_Gx O X) hb_TB mX23_isHere := ⟨okm_23 O X _ rfl rfl (hb_w11 57 ⟨rfl, rfl⟩) (by decide) (fun h => by cases h), okc_23 O X _ rfl rfl⟩
theorem ok_mX23_word (O : Nat → Option FieldType) (X : ab_X) : ab_OKm (hb_Gx O X) hb_TB mX23_word ∧ ab_OKc (hb_Gx O X) hb_TB mX23_word := ⟨okm_23 O X _ rfl rfl (hb_w11 52 ⟨rfl, rfl⟩) (by decide) (fun h => by cases h), okc_23 O X _ rfl rfl⟩
theorem ok_mX23_next (O : Nat → Option FieldType) (X : ab_X) : ab_OKm (hb_Gx O X) hb_TB mX23_next ∧ ab_OKc (hb_Gx O X) hb_TB mX23_next := ⟨okm_23 O X _ rfl rfl (hb_w11 42 ⟨rfl, rfl⟩) (by decide) (fun h => by cases h), okc_23 O X _ rfl rfl⟩
theorem ok_mX23_no (O : Nat → Option FieldType) (X : ab_X) : ab_OKm (hb_Gx O X) hb_TB mX23_no ∧ ab_OKc (hb_Gx O X) hb_TB mX23_no := ⟨okm_23 O X _ rfl rfl (hb_w11 126 ⟨rfl, rfl⟩) (by decide) (fun h => by cases h), okc_23 O X _ rfl rfl⟩
theorem ok_mX23_is (O : Nat → Option FieldType) (X : ab_X) : ab_OKm (hb_Gx O X) hb_TB mX23_is ∧ ab_OKc (hb_Gx O X) hb_TB mX23_is := ⟨okm_23 O X _ rfl rfl (hb_w11 180 ⟨rfl, rfl⟩) (by decide) (fun h => by cases h), okc_23 O X _ rfl rfl⟩
theorem ok_mX23_is_ (O : Nat → Option FieldType) (X : ab_X) : ab_OKm (hb_Gx O X) hb_TB mX23_is_ ∧ ab_OKc (hb_Gx O X) hb_TB mX23_is_ := ⟨okm_23 O X _ rfl rfl (hb_w11 106 ⟨rfl, rfl⟩) (by decide) (fun h => by cases h), okc_23 O X _ rfl rfl⟩
theorem ok_mX23_want (O : Nat → Option FieldType) (X : ab_X) : ab_OKm (hb_Gx O X) hb_TB mX23_want ∧ ab_OKc (hb_Gx O X) hb_TB mX23_want := ⟨okm_23 O X _ rfl rfl (hb_w11 184 ⟨rfl, rfl⟩) (by decide) (fun h => by cases h), okc_23 O X _ rfl rfl⟩
theorem ok_mX23_want_ (O : Nat → Option FieldType) (X : ab_X) : ab_OKm (hb_Gx O X) hb_TB mX23_want_ ∧ ab_OKc (hb_Gx O X) hb_TB mX23_want_ := ⟨okm_23 O X _ rfl rfl (hb_w12 162 ⟨rfl, rfl⟩) (by decide) (fun h => by cases h), okc_23 O X _ rfl rfl⟩
theorem ok_mX23_skip (O : Nat → Option FieldType) (X : ab_X) : ab_OKm (hb_Gx O X) hb_TB mX23_skip ∧ ab_OKc (hb_Gx O X) hb_TB mX23_skip := ⟨okm_23 O X _ rfl rfl (hb_w11 102 ⟨rfl, rfl⟩) (by decide) (fun h => by cases h), okc_23 O X _ rfl rfl⟩
theorem ok_mX23_name (O : Nat → Option FieldType) (X : ab_X) : ab_OKm (hb_Gx O X) hb_TB mX23_name ∧ ab_OKc (hb_Gx O X) hb_TB mX23_name := ⟨okm_23 O X _ rfl rfl (hb_w11 122 ⟨rfl, rfl⟩) (by decide) (fun h => by cases h), okc_23 O X _ rfl rfl⟩
theorem ok_mX23_breaks (O : Nat → Option FieldType) (X : ab_X) : ab_OKm (hb_Gx O X) hb_TB mX23_breaks ∧ ab_OKc (hb_Gx O X) hb_TB mX23_breaks := ⟨okm_23 O X _ rfl rfl (hb_w11 172 ⟨rfl, rfl⟩) (by decide) (fun h => by cases h), okc_23 O X _ rfl rfl⟩
theorem ok_mX23_into (O : Nat → Option FieldType) (X : ab_X) : ab_OKm (hb_Gx O X) hb_TB mX23_into ∧ ab_OKc (hb_Gx O X) hb_TB mX23_into := ⟨okm_23 O X _ rfl rfl (hb_w11 224 ⟨rfl, rfl⟩) (by decide) (fun h => by cases h), okc_23 O X _ rfl rfl⟩
theorem ok_mX23_counted (O : Nat → Option FieldType) (X : ab_X) : ab_OKm (hb_Gx O X) hb_TB mX23_counted ∧ ab_OKc (hb_Gx O X) hb_TB mX23_counted := ⟨okm_23 O X _ rfl rfl (hb_w12 158 ⟨rfl, rfl⟩) (by decide) (fun h => by cases h), okc_23 O X _ rfl rfl⟩
theorem ok_mX23_readText (O : Nat → Option FieldType) (X : ab_X) : ab_OKm (hb_Gx O X) hb_TB mX23_readText ∧ ab_OKc (hb_Gx O X) hb_TB mX23_readText := ⟨okm_23 O X _ rfl rfl (hb_w11 34 ⟨rfl, rfl⟩) (by decide) (fun h => by cases h), okc_23 O X _ rfl rfl⟩
theorem ok_mX23_start (O : Nat → Option FieldType) (X : ab_X) : ab_OKm (hb_Gx O X) hb_TB mX23_start ∧ ab_OKc (hb_Gx O X) hb_TB mX23_start := ⟨okm_23 O X _ rfl rfl (hb_w11 38 ⟨rfl, rfl⟩) (by decide) (fun h => by cases h), okc_23 O X _ rfl rfl⟩
theorem ok_mX23_kind (O : Nat → Option FieldType) (X : ab_X) : ab_OKm (hb_Gx O X) hb_TB mX23_kind ∧ ab_OKc (hb_Gx O X) hb_TB mX23_kind := ⟨okm_23 O X _ rfl rfl (hb_w11 118 ⟨rfl, rfl⟩) (by decide) (fun h => by cases h), okc_23 O X _ rfl rfl⟩
theorem ok_mX23_call (O : Nat → Option FieldType) (X : ab_X) : ab_OKm (hb_Gx O X) hb_TB mX23_call ∧ ab_OKc (hb_Gx O X) hb_TB mX23_call := ⟨okm_23 O X _ rfl rfl (hb_w11 188 ⟨rfl, rfl⟩) (by decide) (fun h => by cases h), okc_23 O X _ rfl rfl⟩
theorem ok_mX23_layer (O : Nat → Option FieldType) (X : ab_X) : ab_OKm (hb_Gx O X) hb_TB mX23_layer ∧ ab_OKc (hb_Gx O X) hb_TB mX23_layer := ⟨okm_23 O X _ rfl rfl (hb_w11 192 ⟨rfl, rfl⟩) (by decide) (fun h => by cases h), okc_23 O X _ rfl rfl⟩
theorem ok_mX23_method (O : Nat → Option FieldType) (X : ab_X) : ab_OKm (hb_Gx O X) hb_TB mX23_method ∧ ab_OKc (hb_Gx O X) hb_TB mX23_method := ⟨okm_23 O X _ rfl rfl (hb_w11 196 ⟨rfl, rfl⟩) (by decide) (fun h => by cases h), okc_23 O X _ rfl rfl⟩
theorem ok_mX23_specs (O : Nat → Option FieldType) (X : ab_X) : ab_OKm (hb_Gx O X) hb_TB mX23_specs ∧ ab_OKc (hb_Gx O X) hb_TB mX23_specs := ⟨okm_23 O X _ rfl rfl (hb_w11 200 ⟨rfl, rfl⟩) (by decide) (fun h => by cases h), okc_23 O X _ rfl rfl⟩
theorem ok_mX23_signed (O : Nat → Option FieldType) (X : ab_X) : ab_OKm (hb_Gx O X) hb_TB mX23_signed ∧ ab_OKc (hb_Gx O X) hb_TB mX23_signed := ⟨okm_23 O X _ rfl rfl (hb_w11 208 ⟨rfl, rfl⟩) (by decide) (fun h => by cases h), okc_23 O X _ rfl rfl⟩
theorem ok_mX23_isThere (O : Nat → Option FieldType) (X : ab_X) : ab_OKm (hb_Gx O X) hb_TB mX23_isThere ∧ ab_OKc (hb_Gx O X) hb_TB mX23_isThere := ⟨okm_23 O X _ rfl rfl (hb_w12 190 ⟨rfl, rfl⟩) (by decide) (fun h => by cases h), okc_23 O X _ rfl rfl⟩
theorem ok_mX23_test (O : Nat → Option FieldType) (X : ab_X) : ab_OKm (hb_Gx O X) hb_TB mX23_test ∧ ab_OKc (hb_Gx O X) hb_TB mX23_test := ⟨okm_23 O X _ rfl rfl (hb_w11 212 ⟨rfl, rfl⟩) (by decide) (fun h => by cases h), okc_23 O X _ rfl rfl⟩
theorem ok_mX23_two (O : Nat → Option FieldType) (X : ab_X) : ab_OKm (hb_Gx O X) hb_TB mX23_two ∧ ab_OKc (hb_Gx O X) hb_TB mX23_two := ⟨okm_23 O X _ rfl rfl (hb_w12 150 ⟨rfl, rfl⟩) (by decide) (fun h => by cases h), okc_23 O X _ rfl rfl⟩
theorem ok_mX23_conjunction (O : Nat → Option FieldType) (X : ab_X) : ab_OKm (hb_Gx O X) hb_TB mX23_conjunction ∧ ab_OKc (hb_Gx O X) hb_TB mX23_conjunction := ⟨okm_23 O X _ rfl rfl (hb_w11 216 ⟨rfl, rfl⟩) (by decide) (fun h => by cases h), okc_23 O X _ rfl rfl⟩
theorem ok_mX23_spec (O : Nat → Option FieldType) (X : ab_X) : ab_OKm (hb_Gx O X) hb_TB mX23_spec ∧ ab_OKc (hb_Gx O X) hb_TB mX23_spec := ⟨okm_23 O X _ rfl rfl (hb_w12 138 ⟨rfl, rfl⟩) (by decide) (fun h => by cases h), okc_23 O X _ rfl rfl⟩
theorem ok_mX23_single (O : Nat → Option FieldType) (X : ab_X) : ab_OKm (hb_Gx O X) hb_TB mX23_single ∧ ab_OKc (hb_Gx O X) hb_TB mX23_single := ⟨okm_23 O X _ rfl rfl (hb_w11 220 ⟨rfl, rfl⟩) (by decide) (fun h => by cases h), okc_23 O X _ rfl rfl⟩
theorem ok_mX23_comparison (O : Nat → Option FieldType) (X : ab_X) : ab_OKm (hb_Gx O X) hb_TB mX23_comparison ∧ ab_OKc (hb_Gx O X) hb_TB mX23_comparison := ⟨okm_23 O X _ rfl rfl (hb_w12 134 ⟨rfl, rfl⟩) (by decide) (fun h => by cases h), okc_23 O X _ rfl rfl⟩
theorem ok_mX23_counts (O : Nat → Option FieldType) (X : ab_X) : ab_OKm (hb_Gx O X) hb_TB mX23_counts ∧ ab_OKc (hb_Gx O X) hb_TB mX23_counts := ⟨okm_23 O X _ rfl rfl (hb_w12 142 ⟨rfl, rfl⟩) (by decide) (fun h => by cases h), okc_23 O X _ rfl rfl⟩
theorem ok_mX23_behind (O : Nat → Option FieldType) (X : ab_X) : ab_OKm (hb_Gx O X) hb_TB mX23_behind ∧ ab_OKc (hb_Gx O X) hb_TB mX23_behind := ⟨okm_23 O X _ rfl rfl (hb_w12 146 ⟨rfl, rfl⟩) (by decide) (fun h => by cases h), okc_23 O X _ rfl rfl⟩
theorem ok_mX23_e (O : Nat → Option FieldType) (X : ab_X) : ab_OKm (hb_Gx O X) hb_TB mX23_e ∧ ab_OKc (hb_Gx O X) hb_TB mX23_e := ⟨okm_23 O X _ rfl rfl (hb_w12 154 ⟨rfl, rfl⟩) (by decide) (fun h => by cases h), okc_23 O X _ rfl rfl⟩
theorem ok_mX23_under (O : Nat → Option FieldType) (X : ab_X) : ab_OKm (hb_Gx O X) hb_TB mX23_under ∧ ab_OKc (hb_Gx O X) hb_TB mX23_under := ⟨okm_23 O X _ rfl rfl (hb_w12 166 ⟨rfl, rfl⟩) (by decide) (fun h => by cases h), okc_23 O X _ rfl rfl⟩
theorem ok_mX23_compared (O : Nat → Option FieldType) (X : ab_X) : ab_OKm (hb_Gx O X) hb_TB mX23_compared ∧ ab_OKc (hb_Gx O X) hb_TB mX23_compared := ⟨okm_23 O X _ rfl rfl (hb_w12 170 ⟨rfl, rfl⟩) (by decide) (fun h => by cases h), okc_23 O X _ rfl rfl⟩
theorem ok_mX23_chain (O : Nat → Option FieldType) (X : ab_X) : ab_OKm (hb_Gx O X) hb_TB mX23_chain ∧ ab_OKc (hb_Gx O X) hb_TB mX23_chain := ⟨okm_23 O X _ rfl rfl (hb_w12 174 ⟨rfl, rfl⟩) (by decide) (fun h => by cases h), okc_23 O X _ rfl rfl⟩
theorem ok_mX23_p (O : Nat → Option FieldType) (X : ab_X) : ab_OKm (hb_Gx O X) hb_TB mX23_p ∧ ab_OKc (hb_Gx O X) hb_TB mX23_p := ⟨okm_23 O X _ rfl rfl (hb_w12 178 ⟨rfl, rfl⟩) (by decide) (fun h => by cases h), okc_23 O X _ rfl rfl⟩
theorem ok_mX23_named (O : Nat → Option FieldType) (X : ab_X) : ab_OKm (hb_Gx O X) hb_TB mX23_named ∧ ab_OKc (hb_Gx O X) hb_TB mX23_named := ⟨okm_23 O X _ rfl rfl (hb_w12 182 ⟨rfl, rfl⟩) (by decide) (fun h => by cases h), okc_23 O X _ rfl rfl⟩
theorem ok_mX23_arguments (O : Nat → Option FieldType) (X : ab_X) : ab_OKm (hb_Gx O X) hb_TB mX23_arguments ∧ ab_OKc (hb_Gx O X) hb_TB mX23_arguments := ⟨okm_23 O X _ rfl rfl (hb_w12 186 ⟨rfl, rfl⟩) (by decide) (fun h => by cases h), okc_23 O X _ rfl rfl⟩
theorem ok_mX23_has (O : Nat → Option FieldType) (X : ab_X) : ab_OKm (hb_Gx O X) hb_TB mX23_has ∧ ab_OKc (hb_Gx O X) hb_TB mX23_has := ⟨okm_23 O X _ rfl rfl (hb_w13 102 ⟨rfl, rfl⟩) (by decide) (fun h => by cases h), okc_23 O X _ rfl rfl⟩
theorem ok_mX23_rebuild (O : Nat → Option FieldType) (X : ab_X) : ab_OKm (hb_Gx O X) hb_TB mX23_rebuild ∧ ab_OKc (hb_Gx O X) hb_TB mX23_rebuild := ⟨okm_23 O X _ rfl rfl (hb_w9 127 ⟨rfl, rfl⟩) (by decide) (fun h => by cases h), okc_23 O X _ rfl rfl⟩
theorem ok_mX23_fits (O : Nat → Option FieldType) (X : ab_X) : ab_OKm (hb_Gx O X) hb_TB mX23_fits ∧ ab_OKc (hb_Gx O X) hb_TB mX23_fits := ⟨okm_23 O X _ rfl rfl (hb_w12 231 ⟨rfl, rfl⟩) (by decide) (fun h => by cases h), okc_23 O X _ rfl rfl⟩
theorem ok_mX23_atom (O : Nat → Option FieldType) (X : ab_X) : ab_OKm (hb_Gx O X) hb_TB mX23_atom ∧ ab_OKc (hb_Gx O X) hb_TB mX23_atom := ⟨okm_23 O X _ rfl rfl (hb_w13 11 ⟨rfl, rfl⟩) (by decide) (fun h => by cases h), okc_23 O X _ rfl rfl⟩
theorem ok_mX23_atoms (O : Nat → Option FieldType) (X : ab_X) : ab_OKm (hb_Gx O X) hb_TB mX23_atoms ∧ ab_OKc (hb_Gx O X) hb_TB mX23_atoms := ⟨okm_23 O X _ rfl rfl (hb_w13 15 ⟨rfl, rfl⟩) (by decide) (fun h => by cases h), okc_23 O X _ rfl rfl⟩
theorem ok_mX23_see (O : Nat → Option FieldType) (X : ab_X) : ab_OKm (hb_Gx O X) hb_TB mX23_see ∧ ab_OKc (hb_Gx O X) hb_TB mX23_see := ⟨okm_23 O X _ rfl rfl (hb_w13 7 ⟨rfl, rfl⟩) (by decide) (fun h => by cases h), okc_23 O X _ rfl rfl⟩
theorem ok_mX23_explore (O : Nat → Option FieldType) (X : ab_X) : ab_OKm (hb_Gx O X) hb_TB mX23_explore ∧ ab_OKc (hb_Gx O X) hb_TB mX23_explore := ⟨okm_23 O X _ rfl rfl (hb_w13 20 ⟨rfl, rfl⟩) (by decide) (fun h => by cases h), okc_23 O X _ rfl rfl⟩
theorem ok_mX23_bound (O : Nat → Option FieldType) (X : ab_X) : ab_OKm (hb_Gx O X) hb_TB mX23_bound ∧ ab_OKc (hb_Gx O X) hb_TB mX23_bound := ⟨okm_23 O X _ rfl rfl (hb_w13 40 ⟨rfl, rfl⟩) (by decide) (fun h => by cases h), okc_23 O X _ rfl rfl⟩
theorem ok_mX23_both (O : Nat → Option FieldType) (X : ab_X) : ab_OKm (hb_Gx O X) hb_TB mX23_both ∧ ab_OKc (hb_Gx O X) hb_TB mX23_both := ⟨okm_23 O X _ rfl rfl (hb_w13 27 ⟨rfl, rfl⟩) (by decide) (fun h => by cases h), okc_23 O X _ rfl rfl⟩
theorem ok_mX23_not (O : Nat → Option FieldType) (X : ab_X) : ab_OKm (hb_Gx O X) hb_TB mX23_not ∧ ab_OKc (hb_Gx O X) hb_TB mX23_not := ⟨okm_23 O X _ rfl rfl (hb_w13 34 ⟨rfl, rfl⟩) (by decide) (fun h => by cases h), okc_23 O X _ rfl rfl⟩
theorem ok_mX23_takes (O : Nat → Option FieldType) (X : ab_X) : ab_OKm (hb_Gx O X) hb_TB mX23_takes ∧ ab_OKc (hb_Gx O X) hb_TB mX23_takes := ⟨okm_23 O X _ rfl rfl (hb_w13 24 ⟨rfl, rfl⟩) (by decide) (fun h => by cases h), okc_23 O X _ rfl rfl⟩
theorem ok_mX23_holds (O : Nat → Option FieldType) (X : ab_X) : ab_OKm (hb_Gx O X) hb_TB mX23_holds ∧ ab_OKc (hb_Gx O X) hb_TB mX23_holds := ⟨okm_23 O X _ rfl rfl (hb_w13 31 ⟨rfl, rfl⟩) (by decide) (fun h => by cases h), okc_23 O X _ rfl rfl⟩
theorem ok_mX23_forget (O : Nat → Option FieldType) (X : ab_X) : ab_OKm (hb_Gx O X) hb_TB mX23_forget ∧ ab_OKc (hb_Gx O X) hb_TB mX23_forget := ⟨okm_23 O X _ rfl rfl (hb_w9 139 ⟨rfl, rfl⟩) (by decide) (fun h => by cases h), okc_23 O X _ rfl rfl⟩
theorem ok_mX23_nearer (O : Nat → Option FieldType) (X : ab_X) : ab_OKm (hb_Gx O X) hb_TB mX23_nearer ∧ ab_OKc (hb_Gx O X) hb_TB mX23_nearer := ⟨okm_23 O X _ rfl rfl (hb_w12 235 ⟨rfl, rfl⟩) (by decide) (fun h => by cases h), okc_23 O X _ rfl rfl⟩
theorem ok_mX23_reckoned (O : Nat → Option FieldType) (X : ab_X) : ab_OKm (hb_Gx O X) hb_TB mX23_reckoned ∧ ab_OKc (hb_Gx O X) hb_TB mX23_reckoned := ⟨okm_23 O X _ rfl rfl (hb_w12 239 ⟨rfl, rfl⟩) (by decide) (fun h => by cases h), okc_23 O X _ rfl rfl⟩
theorem ok_mX23_asksMore (O : Nat → Option FieldType) (X : ab_X) : ab_OKm (hb_Gx O X) hb_TB mX23_asksMore ∧ ab_OKc (hb_Gx O X) hb_TB mX23_asksMore := ⟨okm_23 O X _ rfl rfl (hb_w13 3 ⟨rfl, rfl⟩) (by decide) (fun h => by cases h), okc_23 O X _ rfl rfl⟩
theorem ok_mX23_group (O : Nat → Option FieldType) (X : ab_X) : ab_OKm (hb_Gx O X) hb_TB mX23_group ∧ ab_OKc (hb_Gx O X) hb_TB mX23_group := ⟨okm_23 O X _ rfl rfl (hb_w13 53 ⟨rfl, rfl⟩) (by decide) (fun h => by cases h), okc_23 O X _ rfl rfl⟩
theorem ok_mX23_isAlike (O : Nat → Option FieldType) (X : ab_X) : ab_OKm (hb_Gx O X) hb_TB mX23_isAlike ∧ ab_OKc (hb_Gx O X) hb_TB mX23_isAlike := ⟨okm_23 O X _ rfl rfl (hb_w13 57 ⟨rfl, rfl⟩) (by decide) (fun h => by cases h), okc_23 O X _ rfl rfl⟩
theorem ok_mX23_isNew (O : Nat → Option FieldType) (X : ab_X) : ab_OKm (hb_Gx O X) hb_TB mX23_isNew ∧ ab_OKc (hb_Gx O X) hb_TB mX23_isNew := ⟨okm_23 O X _ rfl rfl (hb_w13 65 ⟨rfl, rfl⟩) (by decide) (fun h => by cases h), okc_23 O X _ rfl rfl⟩
theorem ok_mX23_nothingIs (O : Nat → Option FieldType) (X : ab_X) : ab_OKm (hb_Gx O X) hb_TB mX23_nothingIs ∧ ab_OKc (hb_Gx O X) hb_TB mX23_nothingIs := ⟨okm_23 O X _ rfl rfl (hb_w13 61 ⟨rfl, rfl⟩) (by decide) (fun h => by cases h), okc_23 O X _ rfl rfl⟩
theorem ok_mX23_lists (O : Nat → Option FieldType) (X : ab_X) : ab_OKm (hb_Gx O X) hb_TB mX23_lists ∧ ab_OKc (hb_Gx O X) hb_TB mX23_lists := ⟨okm_23 O X _ rfl rfl (hb_w13 49 ⟨rfl, rfl⟩) (by decide) (fun h => by cases h), okc_23 O X _ rfl rfl⟩
theorem ok_mX23_cells (O : Nat → Option FieldType) (X : ab_X) : ab_OKm (hb_Gx O X) hb_TB mX23_cells ∧ ab_OKc (hb_Gx O X) hb_TB mX23_cells := ⟨okm_23 O X _ rfl rfl (hb_w13 72 ⟨rfl, rfl⟩) (by decide) (fun h => by cases h), okc_23 O X _ rfl rfl⟩
theorem ok_mX23_place (O : Nat → Option FieldType) (X : ab_X) : ab_OKm (hb_Gx O X) hb_TB mX23_place ∧ ab_OKc (hb_Gx O X) hb_TB mX23_place := ⟨okm_23 O X _ rfl rfl (hb_w13 91 ⟨rfl, rfl⟩) (by decide) (fun h => by cases h), okc_23 O X _ rfl rfl⟩
theorem ok_mX23_orderCount (O : Nat → Option FieldType) (X : ab_X) : ab_OKm (hb_Gx O X) hb_TB mX23_orderCount ∧ ab_OKc (hb_Gx O X) hb_TB mX23_orderCount := ⟨okm_23 O X _ rfl rfl (hb_w13 80 ⟨rfl, rfl⟩) (by decide) (fun h => by cases h), okc_23 O X _ rfl rfl⟩
theorem ok_mX23_matter (O : Nat → Option FieldType) (X : ab_X) : ab_OKm (hb_Gx O X) hb_TB mX23_matter ∧ ab_OKc (hb_Gx O X) hb_TB mX23_matter := ⟨okm_23 O X _ rfl rfl (hb_w13 88 ⟨rfl, rfl⟩) (by decide) (fun h => by cases h), okc_23 O X _ rfl rfl⟩
theorem ok_mX23_nodeCount (O : Nat → Option FieldType) (X : ab_X) : ab_OKm (hb_Gx O X) hb_TB mX23_nodeCount ∧ ab_OKc (hb_Gx O X) hb_TB mX23_nodeCount := ⟨okm_23 O X _ rfl rfl (hb_w13 84 ⟨rfl, rfl⟩) (by decide) (fun h => by cases h), okc_23 O X _ rfl rfl⟩
theorem ok_mX23_order (O : Nat → Option FieldType) (X : ab_X) : ab_OKm (hb_Gx O X) hb_TB mX23_order ∧ ab_OKc (hb_Gx O X) hb_TB mX23_order := ⟨okm_23 O X _ rfl rfl (hb_w13 76 ⟨rfl, rfl⟩) (by decide) (fun h => by cases h), okc_23 O X _ rfl rfl⟩
theorem ok_mX23_looks (O : Nat → Option FieldType) (X : ab_X) : ab_OKm (hb_Gx O X) hb_TB mX23_looks ∧ ab_OKc (hb_Gx O X) hb_TB mX23_looks := ⟨okm_23 O X _ rfl rfl (hb_w13 175 ⟨rfl, rfl⟩) (by decide) (fun h => by cases h), okc_23 O X _ rfl rfl⟩
theorem ok_mX23_without (O : Nat → Option FieldType) (X : ab_X) : ab_OKm (hb_Gx O X) hb_TB mX23_without ∧ ab_OKc (hb_Gx O X) hb_TB mX23_without := ⟨okm_23 O X _ rfl rfl (hb_w13 155 ⟨rfl, rfl⟩) (by decide) (fun h => by cases h), okc_23 O X _ rfl rfl⟩
theorem ok_mX23_with (O : Nat → Option FieldType) (X : ab_X) : ab_OKm (hb_Gx O X) hb_TB mX23_with ∧ ab_OKc (hb_Gx O X) hb_TB mX23_with := ⟨okm_23 O X _ rfl rfl (hb_w13 152 ⟨rfl, rfl⟩) (by decide) (fun h => by cases h), okc_23 O X _ rfl rfl⟩
theorem ok_mX23_isOn (O : Nat → Option FieldType) (X : ab_X) : ab_OKm (hb_Gx O X) hb_TB mX23_isOn ∧ ab_OKc (hb_Gx O X) hb_TB mX23_isOn := ⟨okm_23 O X _ rfl rfl (hb_w13 186 ⟨rfl, rfl⟩) (by decide) (fun h => by cases h), okc_23 O X _ rfl rfl⟩
theorem ok_mX23_applies (O : Nat → Option FieldType) (X : ab_X) : ab_OKm (hb_Gx O X) hb_TB mX23_applies ∧ ab_OKc (hb_Gx O X) hb_TB mX23_applies := ⟨okm_23 O X _ rfl rfl (hb_w13 183 ⟨rfl, rfl⟩) (by decide) (fun h => by cases h), okc_23 O X _ rfl rfl⟩
theorem ok_mX23_term (O : Nat → Option FieldType) (X : ab_X) : ab_OKm (hb_Gx O X) hb_TB mX23_term ∧ ab_OKc (hb_Gx O X) hb_TB mX23_term := ⟨okm_23 O X _ rfl rfl (hb_w13 193 ⟨rfl, rfl⟩) (by decide) (fun h => by cases h), okc_23 O X _ rfl rfl⟩
theorem ok_mX23_isTrue (O : Nat → Option FieldType) (X : ab_X) : ab_OKm (hb_Gx O X) hb_TB mX23_isTrue ∧ ab_OKc (hb_Gx O X) hb_TB mX23_isTrue := ⟨okm_23 O X _ rfl rfl (hb_w13 190 ⟨rfl, rfl⟩) (by decide) (fun h => by cases h), okc_23 O X _ rfl rfl⟩
theorem ok_mX23_firstOf (O : Nat → Option FieldType) (X : ab_X) : ab_OKm (hb_Gx O X) hb_TB mX23_firstOf ∧ ab_OKc (hb_Gx O X) hb_TB mX23_firstOf := ⟨okm_23 O X _ rfl rfl (hb_w13 125 ⟨rfl, rfl⟩) (by decide) (fun h => by cases h), okc_23 O X _ rfl rfl⟩
theorem ok_mX23_chooseRow (O : Nat → Option FieldType) (X : ab_X) : ab_OKm (hb_Gx O X) hb_TB mX23_chooseRow ∧ ab_OKc (hb_Gx O X) hb_TB mX23_chooseRow := ⟨okm_23 O X _ rfl rfl (hb_w13 197 ⟨rfl, rfl⟩) (by decide) (fun h => by cases h), okc_23 O X _ rfl rfl⟩
theorem ok_mX23_value (O : Nat → Option FieldType) (X : ab_X) : ab_OKm (hb_Gx O X) hb_TB mX23_value ∧ ab_OKc (hb_Gx O X) hb_TB mX23_value := ⟨okm_23 O X _ rfl rfl (hb_w13 136 ⟨rfl, rfl⟩) (by decide) (fun h => by cases h), okc_23 O X _ rfl rfl⟩
theorem ok_mX23_kindIn (O : Nat → Option FieldType) (X : ab_X) : ab_OKm (hb_Gx O X) hb_TB mX23_kindIn ∧ ab_OKc (hb_Gx O X) hb_TB mX23_kindIn := ⟨okm_23 O X _ rfl rfl (hb_w13 159 ⟨rfl, rfl⟩) (by decide) (fun h => by cases h), okc_23 O X _ rfl rfl⟩
theorem ok_mX23_fault (O : Nat → Option FieldType) (X : ab_X) : ab_OKm (hb_Gx O X) hb_TB mX23_fault ∧ ab_OKc (hb_Gx O X) hb_TB mX23_fault := ⟨okm_23 O X _ rfl rfl (hb_w13 167 ⟨rfl, rfl⟩) (by decide) (fun h => by cases h), okc_23 O X _ rfl rfl⟩
theorem ok_mX23_ends (O : Nat → Option FieldType) (X : ab_X) : ab_OKm (hb_Gx O X) hb_TB mX23_ends ∧ ab_OKc (hb_Gx O X) hb_TB mX23_ends := ⟨okm_23 O X _ rfl rfl (hb_w13 149 ⟨rfl, rfl⟩) (by decide) (fun h => by cases h), okc_23 O X _ rfl rfl⟩
theorem ok_mX23_step (O : Nat → Option FieldType) (X : ab_X) : ab_OKm (hb_Gx O X) hb_TB mX23_step ∧ ab_OKc (hb_Gx O X) hb_TB mX23_step := ⟨okm_23 O X _ rfl rfl (hb_w13 145 ⟨rfl, rfl⟩) (by decide) (fun h => by cases h), okc_23 O X _ rfl rfl⟩
theorem ok_mX23_chained (O : Nat → Option FieldType) (X : ab_X) : ab_OKm (hb_Gx O X) hb_TB mX23_chained ∧ ab_OKc (hb_Gx O X) hb_TB mX23_chained := ⟨okm_23 O X _ rfl rfl (hb_w13 163 ⟨rfl, rfl⟩) (by decide) (fun h => by cases h), okc_23 O X _ rfl rfl⟩
theorem ok_mX23_choose (O : Nat → Option FieldType) (X : ab_X) : ab_OKm (hb_Gx O X) hb_TB mX23_choose ∧ ab_OKc (hb_Gx O X) hb_TB mX23_choose := ⟨okm_23 O X _ rfl rfl (hb_w13 179 ⟨rfl, rfl⟩) (by decide) (fun h => by cases h), okc_23 O X _ rfl rfl⟩
theorem ok_mX23_further (O : Nat → Option FieldType) (X : ab_X) : ab_OKm (hb_Gx O X) hb_TB mX23_further ∧ ab_OKc (hb_Gx O X) hb_TB mX23_further := ⟨okm_23 O X _ rfl rfl (hb_w13 215 ⟨rfl, rfl⟩) (by decide) (fun h => by cases h), okc_23 O X _ rfl rfl⟩
theorem ok_mX23_inside (O : Nat → Option FieldType) (X : ab_X) : ab_OKm (hb_Gx O X) hb_TB mX23_inside ∧ ab_OKc (hb_Gx O X) hb_TB mX23_inside := ⟨okm_23 O X _ rfl rfl (hb_w13 206 ⟨rfl, rfl⟩) (by decide) (fun h => by cases h), okc_23 O X _ rfl rfl⟩
theorem ok_mX23_joined_ (O : Nat → Option FieldType) (X : ab_X) : ab_OKm (hb_Gx O X) hb_TB mX23_joined_ ∧ ab_OKc (hb_Gx O X) hb_TB mX23_joined_ := ⟨okm_23 O X _ rfl rfl (hb_w13 210 ⟨rfl, rfl⟩) (by decide) (fun h => by cases h), okc_23 O X _ rfl rfl⟩
theorem ok_mX23_judge (O : Nat → Option FieldType) (X : ab_X) : ab_OKm (hb_Gx O X) hb_TB mX23_judge ∧ ab_OKc (hb_Gx O X) hb_TB mX23_judge := ⟨okm_23 O X _ rfl rfl (hb_w13 95 ⟨rfl, rfl⟩) (by decide) (fun h => by cases h), okc_23 O X _ rfl rfl⟩
theorem ok_mX23_collect (O : Nat → Option FieldType) (X : ab_X) : ab_OKm (hb_Gx O X) hb_TB mX23_collect ∧ ab_OKc (hb_Gx O X) hb_TB mX23_collect := ⟨okm_23 O X _ rfl rfl (hb_w13 99 ⟨rfl, rfl⟩) (by decide) (fun h => by cases h), okc_23 O X _ rfl rfl⟩
theorem ok_mX23_bad (O : Nat → Option FieldType) (X : ab_X) : ab_OKm (hb_Gx O X) hb_TB mX23_bad ∧ ab_OKc (hb_Gx O X) hb_TB mX23_bad := ⟨okm_23 O X _ rfl rfl (hb_w13 110 ⟨rfl, rfl⟩) (by decide) (fun h => by cases h), okc_23 O X _ rfl rfl⟩
theorem ok_mX23_lookAt (O : Nat → Option FieldType) (X : ab_X) : ab_OKm (hb_Gx O X) hb_TB mX23_lookAt ∧ ab_OKc (hb_Gx O X) hb_TB mX23_lookAt := ⟨okm_23 O X _ rfl rfl (hb_w13 114 ⟨rfl, rfl⟩) (by decide) (fun h => by cases h), okc_23 O X _ rfl rfl⟩
theorem ok_mX23_asksKinds (O : Nat → Option FieldType) (X : ab_X) : ab_OKm (hb_Gx O X) hb_TB mX23_asksKinds ∧ ab_OKc (hb_Gx O X) hb_TB mX23_asksKinds := ⟨okm_23 O X _ rfl rfl (hb_w13 117 ⟨rfl, rfl⟩) (by decide) (fun h => by cases h), okc_23 O X _ rfl rfl⟩
theorem ok_mX23_isSeveral (O : Nat → Option FieldType) (X : ab_X) : ab_OKm (hb_Gx O X) hb_TB mX23_isSeveral ∧ ab_OKc (hb_Gx O X) hb_TB mX23_isSeveral := ⟨okm_23 O X _ rfl rfl (hb_w13 121 ⟨rfl, rfl⟩) (by decide) (fun h => by cases h), okc_23 O X _ rfl rfl⟩
theorem ok_mX23_init (O : Nat → Option FieldType) (X : ab_X) : ab_OKm (hb_Gx O X) hb_TB mX23_init ∧ ab_OKc (hb_Gx O X) hb_TB mX23_init := ⟨okm_23 O X _ rfl rfl (hb_w8 105 ⟨rfl, rfl⟩) (by decide) (fun _ => rfl), okc_23 O X _ rfl rfl⟩
theorem ok_mX23_beginning (O : Nat → Option FieldType) (X : ab_X) : ab_OKm (hb_Gx O X) hb_TB mX23_beginning ∧ ab_OKc (hb_Gx O X) hb_TB mX23_beginning := ⟨okm_23 O X _ rfl rfl (hb_w9 98 ⟨rfl, rfl⟩) (by decide) (fun h => by cases h), okc_23 O X _ rfl rfl⟩
theorem ok_mX23_tellKind (O : Nat → Option FieldType) (X : ab_X) : ab_OKm (hb_Gx O X) hb_TB mX23_tellKind ∧ ab_OKc (hb_Gx O X) hb_TB mX23_tellKind := ⟨okm_23 O X _ rfl rfl (hb_w9 103 ⟨rfl, rfl⟩) (by decide) (fun h => by cases h), okc_23 O X _ rfl rfl⟩
theorem ok_mX23_thrown (O : Nat → Option FieldType) (X : ab_X) : ab_OKm (hb_Gx O X) hb_TB mX23_thrown ∧ ab_OKc (hb_Gx O X) hb_TB mX23_thrown := ⟨okm_23 O X _ rfl rfl (hb_w11 9 ⟨rfl, rfl⟩) (by decide) (fun h => by cases h), okc_23 O X _ rfl rfl⟩
theorem ok_mX23_no_ (O : Nat → Option FieldType) (X : ab_X) : ab_OKm (hb_Gx O X) hb_TB mX23_no_ ∧ ab_OKc (hb_Gx O X) hb_TB mX23_no_ := ⟨okm_23 O X _ rfl rfl (hb_w11 17 ⟨rfl, rfl⟩) (by decide) (fun h => by cases h), okc_23 O X _ rfl rfl⟩
theorem ok_mX23_feed (O : Nat → Option FieldType) (X : ab_X) : ab_OKm (hb_Gx O X) hb_TB mX23_feed ∧ ab_OKc (hb_Gx O X) hb_TB mX23_feed := ⟨okm_23 O X _ rfl rfl (hb_w11 13 ⟨rfl, rfl⟩) (by decide) (fun h => by cases h), okc_23 O X _ rfl rfl⟩
theorem ok_mX23_word_ (O : Nat → Option FieldType) (X : ab_X) : ab_OKm (hb_Gx O X) hb_TB mX23_word_ ∧ ab_OKc (hb_Gx O X) hb_TB mX23_word_ := ⟨okm_23 O X _ rfl rfl (hb_w11 21 ⟨rfl, rfl⟩) (by decide) (fun h => by cases h), okc_23 O X _ rfl rfl⟩
theorem ok_mX23_end (O : Nat → Option FieldType) (X : ab_X) : ab_OKm (hb_Gx O X) hb_TB mX23_end ∧ ab_OKc (hb_Gx O X) hb_TB mX23_end := ⟨okm_23 O X _ rfl rfl (hb_w11 25 ⟨rfl, rfl⟩) (by decide) (fun h => by cases h), okc_23 O X _ rfl rfl⟩
theorem ok_mX23_clear (O : Nat → Option FieldType) (X : ab_X) : ab_OKm (hb_Gx O X) hb_TB mX23_clear ∧ ab_OKc (hb_Gx O X) hb_TB mX23_clear := ⟨okm_23 O X _ rfl rfl (hb_w12 198 ⟨rfl, rfl⟩) (by decide) (fun h => by cases h), okc_23 O X _ rfl rfl⟩
theorem ok_mX23_drop (O : Nat → Option FieldType) (X : ab_X) : ab_OKm (hb_Gx O X) hb_TB mX23_drop ∧ ab_OKc (hb_Gx O X) hb_TB mX23_drop := ⟨okm_23 O X _ rfl rfl (hb_w12 202 ⟨rfl, rfl⟩) (by decide) (fun h => by cases h), okc_23 O X _ rfl rfl⟩
theorem ok_mX23_set (O : Nat → Option FieldType) (X : ab_X) : ab_OKm (hb_Gx O X) hb_TB mX23_set ∧ ab_OKc (hb_Gx O X) hb_TB mX23_set := ⟨okm_23 O X _ rfl rfl (hb_w12 206 ⟨rfl, rfl⟩) (by decide) (fun h => by cases h), okc_23 O X _ rfl rfl⟩
theorem ok_mX23_count (O : Nat → Option FieldType) (X : ab_X) : ab_OKm (hb_Gx O X) hb_TB mX23_count ∧ ab_OKc (hb_Gx O X) hb_TB mX23_count := ⟨okm_23 O X _ rfl rfl (hb_w12 211 ⟨rfl, rfl⟩) (by decide) (fun h => by cases h), okc_23 O X _ rfl rfl⟩
theorem ok_mX23_isKind (O : Nat → Option FieldType) (X : ab_X) : ab_OKm (hb_Gx O X) hb_TB mX23_isKind ∧ ab_OKc (hb_Gx O X) hb_TB mX23_isKind := ⟨okm_23 O X _ rfl rfl (hb_w12 219 ⟨rfl, rfl⟩) (by decide) (fun h => by cases h), okc_23 O X _ rfl rfl⟩
theorem ok_mX23_below (O : Nat → Option FieldType) (X : ab_X) : ab_OKm (hb_Gx O X) hb_TB mX23_below ∧ ab_OKc (hb_Gx O X) hb_TB mX23_below := ⟨okm_23 O X _ rfl rfl (hb_w12 215 ⟨rfl, rfl⟩) (by decide) (fun h => by cases h), okc_23 O X _ rfl rfl⟩
theorem ok_mX23_row (O : Nat → Option FieldType) (X : ab_X) : ab_OKm (hb_Gx O X) hb_TB mX23_row ∧ ab_OKc (hb_Gx O X) hb_TB mX23_row := ⟨okm_23 O X _ rfl rfl (hb_w12 223 ⟨rfl, rfl⟩) (by decide) (fun h => by cases h), okc_23 O X _ rfl rfl⟩
theorem ok_mX23_nearer_ (O : Nat → Option FieldType) (X : ab_X) : ab_OKm (hb_Gx O X) hb_TB mX23_nearer_ ∧ ab_OKc (hb_Gx O X) hb_TB mX23_nearer_ := ⟨okm_23 O X _ rfl rfl (hb_w12 227 ⟨rfl, rfl⟩) (by decide) (fun h => by cases h), okc_23 O X _ rfl rfl⟩
theorem ok_mX23_call_ (O : Nat → Option FieldType) (X : ab_X) : ab_OKm (hb_Gx O X) hb_TB mX23_call_ ∧ ab_OKc (hb_Gx O X) hb_TB mX23_call_ := ⟨okm_23 O X _ rfl rfl (hb_w13 45 ⟨rfl, rfl⟩) (by decide) (fun h => by cases h), okc_23 O X _ rfl rfl⟩
theorem ok_mX23_run (O : Nat → Option FieldType) (X : ab_X) : ab_OKm (hb_Gx O X) hb_TB mX23_run ∧ ab_OKc (hb_Gx O X) hb_TB mX23_run := ⟨okm_23 O X _ rfl rfl (hb_w13 129 ⟨rfl, rfl⟩) (by decide) (fun h => by cases h), okc_23 O X _ rfl rfl⟩
theorem ok_mX23_told (O : Nat → Option FieldType) (X : ab_X) : ab_OKm (hb_Gx O X) hb_TB mX23_told ∧ ab_OKc (hb_Gx O X) hb_TB mX23_told := ⟨okm_23 O X _ rfl rfl (hb_w13 219 ⟨rfl, rfl⟩) (by decide) (fun h => by cases h), okc_23 O X _ rfl rfl⟩
theorem ok_mX23_shown (O : Nat → Option FieldType) (X : ab_X) : ab_OKm (hb_Gx O X) hb_TB mX23_shown ∧ ab_OKc (hb_Gx O X) hb_TB mX23_shown := ⟨okm_23 O X _ rfl rfl (hb_w13 223 ⟨rfl, rfl⟩) (by decide) (fun h => by cases h), okc_23 O X _ rfl rfl⟩
theorem ok_mX23_ran (O : Nat → Option FieldType) (X : ab_X) : ab_OKm (hb_Gx O X) hb_TB mX23_ran ∧ ab_OKc (hb_Gx O X) hb_TB mX23_ran := ⟨okm_23 O X _ rfl rfl (hb_w13 227 ⟨rfl, rfl⟩) (by decide) (fun h => by cases h), okc_23 O X _ rfl rfl⟩
theorem ok_mX23_word__ (O : Nat → Option FieldType) (X : ab_X) : ab_OKm (hb_Gx O X) hb_TB mX23_word__ ∧ ab_OKc (hb_Gx O X) hb_TB mX23_word__ := ⟨okm_23 O X _ rfl rfl (hb_w13 231 ⟨rfl, rfl⟩) (by decide) (fun h => by cases h), okc_23 O X _ rfl rfl⟩
theorem hb_N23_0 (O : Nat → Option FieldType) (X : ab_X) : ∀ M ∈ [mX23_isName, mX23_isSame, mX23_kindNamed, mX23_callNamed, mX23_layerNamed, mX23_isTold, mX23_isBelow, mX23_makeRows, mX23_isFirst, mX23_joined, mX23_isLetter, mX23_isDigit], ab_OKm (hb_Gx O X) hb_TB M ∧ ab_OKc (hb_Gx O X) hb_TB M := List.forall_mem_cons.mpr ⟨ok_mX23_isName O X, List.forall_mem_cons.mpr ⟨ok_mX23_isSame O X, List.forall_mem_cons.mpr ⟨ok_mX23_kindNamed O X, List.forall_mem_cons.mpr ⟨ok_mX23_callNamed O X, List.forall_mem_cons.mpr ⟨ok_mX23_layerNamed O X, List.forall_mem_cons.mpr ⟨ok_mX23_isTold O X, List.forall_mem_cons.mpr ⟨ok_mX23_isBelow O X, List.forall_mem_cons.mpr ⟨ok_mX23_makeRows O X, List.forall_mem_cons.mpr ⟨ok_mX23_isFirst O X, List.forall_mem_cons.mpr ⟨ok_mX23_joined O X, List.forall_mem_cons.mpr ⟨ok_mX23_isLetter O X, List.forall_mem_cons.mpr ⟨ok_mX23_isDigit O X, fun _ h => absurd h List.not_mem_nil⟩⟩⟩⟩⟩⟩⟩⟩⟩⟩⟩⟩
theorem hb_N23_1 (O : Nat → Option FieldType) (X : ab_X) : ∀ M ∈ [mX23_isHere, mX23_word, mX23_next, mX23_no, mX23_is, mX23_is_, mX23_want, mX23_want_, mX23_skip, mX23_name, mX23_breaks, mX23_into], ab_OKm (hb_Gx O X) hb_TB M ∧ ab_OKc (hb_Gx O X) hb_TB M := List.forall_mem_cons.mpr ⟨ok_mX23_isHere O X, List.forall_mem_cons.mpr ⟨ok_mX23_word O X, List.forall_mem_cons.mpr ⟨ok_mX23_next O X, List.forall_mem_cons.mpr ⟨ok_mX23_no O X, List.forall_mem_cons.mpr ⟨ok_mX23_is O X, List.forall_mem_cons.mpr ⟨ok_mX23_is_ O X, List.forall_mem_cons.mpr ⟨ok_mX23_want O X, List.forall_mem_cons.mpr ⟨ok_mX23_want_ O X, List.forall_mem_cons.mpr ⟨ok_mX23_skip O X, List.forall_mem_cons.mpr ⟨ok_mX23_name O X, List.forall_mem_cons.mpr ⟨ok_mX23_breaks O X, List.forall_mem_cons.mpr ⟨ok_mX23_into O X, fun _ h => absurd h List.not_mem_nil⟩⟩⟩⟩⟩⟩⟩⟩⟩⟩⟩⟩
theorem hb_N23_2 (O : Nat → Option FieldType) (X : ab_X) : ∀ M ∈ [mX23_counted, mX23_readText, mX23_start, mX23_kind, mX23_call, mX23_layer, mX23_method, mX23_specs, mX23_signed, mX23_isThere, mX23_test, mX23_two], ab_OKm (hb_Gx O X) hb_TB M ∧ ab_OKc (hb_Gx O X) hb_TB M := List.forall_mem_cons.mpr ⟨ok_mX23_counted O X, List.forall_mem_cons.mpr ⟨ok_mX23_readText O X, List.forall_mem_cons.mpr ⟨ok_mX23_start O X, List.forall_mem_cons.mpr ⟨ok_mX23_kind O X, List.forall_mem_cons.mpr ⟨ok_mX23_call O X, List.forall_mem_cons.mpr ⟨ok_mX23_layer O X, List.forall_mem_cons.mpr ⟨ok_mX23_method O X, List.forall_mem_cons.mpr ⟨ok_mX23_specs O X, List.forall_mem_cons.mpr ⟨ok_mX23_signed O X, List.forall_mem_cons.mpr ⟨ok_mX23_isThere O X, List.forall_mem_cons.mpr ⟨ok_mX23_test O X, List.forall_mem_cons.mpr ⟨ok_mX23_two O X, fun _ h => absurd h List.not_mem_nil⟩⟩⟩⟩⟩⟩⟩⟩⟩⟩⟩⟩
theorem hb_N23_3 (O : Nat → Option FieldType) (X : ab_X) : ∀ M ∈ [mX23_conjunction, mX23_spec, mX23_single, mX23_comparison, mX23_counts, mX23_behind, mX23_e, mX23_under, mX23_compared, mX23_chain, mX23_p, mX23_named], ab_OKm (hb_Gx O X) hb_TB M ∧ ab_OKc (hb_Gx O X) hb_TB M := List.forall_mem_cons.mpr ⟨ok_mX23_conjunction O X, List.forall_mem_cons.mpr ⟨ok_mX23_spec O X, List.forall_mem_cons.mpr ⟨ok_mX23_single O X, List.forall_mem_cons.mpr ⟨ok_mX23_comparison O X, List.forall_mem_cons.mpr ⟨ok_mX23_counts O X, List.forall_mem_cons.mpr ⟨ok_mX23_behind O X, List.forall_mem_cons.mpr ⟨ok_mX23_e O X, List.forall_mem_cons.mpr ⟨ok_mX23_under O X, List.forall_mem_cons.mpr ⟨ok_mX23_compared O X, List.forall_mem_cons.mpr ⟨ok_mX23_chain O X, List.forall_mem_cons.mpr ⟨ok_mX23_p O X, List.forall_mem_cons.mpr ⟨ok_mX23_named O X, fun _ h => absurd h List.not_mem_nil⟩⟩⟩⟩⟩⟩⟩⟩⟩⟩⟩⟩
theorem hb_N23_4 (O : Nat → Option FieldType) (X : ab_X) : ∀ M ∈ [mX23_arguments, mX23_has, mX23_rebuild, mX23_fits, mX23_atom, mX23_atoms, mX23_see, mX23_explore, mX23_bound, mX23_both, mX23_not, mX23_takes], ab_OKm (hb_Gx O X) hb_TB M ∧ ab_OKc (hb_Gx O X) hb_TB M := List.forall_mem_cons.mpr ⟨ok_mX23_arguments O X, List.forall_mem_cons.mpr ⟨ok_mX23_has O X, List.forall_mem_cons.mpr ⟨ok_mX23_rebuild O X, List.forall_mem_cons.mpr ⟨ok_mX23_fits O X, List.forall_mem_cons.mpr ⟨ok_mX23_atom O X, List.forall_mem_cons.mpr ⟨ok_mX23_atoms O X, List.forall_mem_cons.mpr ⟨ok_mX23_see O X, List.forall_mem_cons.mpr ⟨ok_mX23_explore O X, List.forall_mem_cons.mpr ⟨ok_mX23_bound O X, List.forall_mem_cons.mpr ⟨ok_mX23_both O X, List.forall_mem_cons.mpr ⟨ok_mX23_not O X, List.forall_mem_cons.mpr ⟨ok_mX23_takes O X, fun _ h => absurd h List.not_mem_nil⟩⟩⟩⟩⟩⟩⟩⟩⟩⟩⟩⟩
theorem hb_N23_5 (O : Nat → Option FieldType) (X : ab_X) : ∀ M ∈ [mX23_holds, mX23_forget, mX23_nearer, mX23_reckoned, mX23_asksMore, mX23_group, mX23_isAlike, mX23_isNew, mX23_nothingIs, mX23_lists, mX23_cells, mX23_place], ab_OKm (hb_Gx O X) hb_TB M ∧ ab_OKc (hb_Gx O X) hb_TB M := List.forall_mem_cons.mpr ⟨ok_mX23_holds O X, List.forall_mem_cons.mpr ⟨ok_mX23_forget O X, List.forall_mem_cons.mpr ⟨ok_mX23_nearer O X, List.forall_mem_cons.mpr ⟨ok_mX23_reckoned O X, List.forall_mem_cons.mpr ⟨ok_mX23_asksMore O X, List.forall_mem_cons.mpr ⟨ok_mX23_group O X, List.forall_mem_cons.mpr ⟨ok_mX23_isAlike O X, List.forall_mem_cons.mpr ⟨ok_mX23_isNew O X, List.forall_mem_cons.mpr ⟨ok_mX23_nothingIs O X, List.forall_mem_cons.mpr ⟨ok_mX23_lists O X, List.forall_mem_cons.mpr ⟨ok_mX23_cells O X, List.forall_mem_cons.mpr ⟨ok_mX23_place O X, fun _ h => absurd h List.not_mem_nil⟩⟩⟩⟩⟩⟩⟩⟩⟩⟩⟩⟩
theorem hb_N23_6 (O : Nat → Option FieldType) (X : ab_X) : ∀ M ∈ [mX23_orderCount, mX23_matter, mX23_nodeCount, mX23_order, mX23_looks, mX23_without, mX23_with, mX23_isOn, mX23_applies, mX23_term, mX23_isTrue, mX23_firstOf], ab_OKm (hb_Gx O X) hb_TB M ∧ ab_OKc (hb_Gx O X) hb_TB M := List.forall_mem_cons.mpr ⟨ok_mX23_orderCount O X, List.forall_mem_cons.mpr ⟨ok_mX23_matter O X, List.forall_mem_cons.mpr ⟨ok_mX23_nodeCount O X, List.forall_mem_cons.mpr ⟨ok_mX23_order O X, List.forall_mem_cons.mpr ⟨ok_mX23_looks O X, List.forall_mem_cons.mpr ⟨ok_mX23_without O X, List.forall_mem_cons.mpr ⟨ok_mX23_with O X, List.forall_mem_cons.mpr ⟨ok_mX23_isOn O X, List.forall_mem_cons.mpr ⟨ok_mX23_applies O X, List.forall_mem_cons.mpr ⟨ok_mX23_term O X, List.forall_mem_cons.mpr ⟨ok_mX23_isTrue O X, List.forall_mem_cons.mpr ⟨ok_mX23_firstOf O X, fun _ h => absurd h List.not_mem_nil⟩⟩⟩⟩⟩⟩⟩⟩⟩⟩⟩⟩
theorem hb_N23_7 (O : Nat → Option FieldType) (X : ab_X) : ∀ M ∈ [mX23_chooseRow, mX23_value, mX23_kindIn, mX23_fault, mX23_ends, mX23_step, mX23_chained, mX23_choose, mX23_further, mX23_inside, mX23_joined_, mX23_judge], ab_OKm (hb_Gx O X) hb_TB M ∧ ab_OKc (hb_Gx O X) hb_TB M := List.forall_mem_cons.mpr ⟨ok_mX23_chooseRow O X, List.forall_mem_cons.mpr ⟨ok_mX23_value O X, List.forall_mem_cons.mpr ⟨ok_mX23_kindIn O X, List.forall_mem_cons.mpr ⟨ok_mX23_fault O X, List.forall_mem_cons.mpr ⟨ok_mX23_ends O X, List.forall_mem_cons.mpr ⟨ok_mX23_step O X, List.forall_mem_cons.mpr ⟨ok_mX23_chained O X, List.forall_mem_cons.mpr ⟨ok_mX23_choose O X, List.forall_mem_cons.mpr ⟨ok_mX23_further O X, List.forall_mem_cons.mpr ⟨ok_mX23_inside O X, List.forall_mem_cons.mpr ⟨ok_mX23_joined_ O X, List.forall_mem_cons.mpr ⟨ok_mX23_judge O X, fun _ h => absurd h List.not_mem_nil⟩⟩⟩⟩⟩⟩⟩⟩⟩⟩⟩⟩
theorem hb_N23_8 (O : Nat → Option FieldType) (X : ab_X) : ∀ M ∈ [mX23_collect, mX23_bad, mX23_lookAt, mX23_asksKinds, mX23_isSeveral, mX23_init, mX23_beginning, mX23_tellKind, mX23_thrown, mX23_no_, mX23_feed, mX23_word_], ab_OKm (hb_Gx O X) hb_TB M ∧ ab_OKc (hb_Gx O X) hb_TB M := List.forall_mem_cons.mpr ⟨ok_mX23_collect O X, List.forall_mem_cons.mpr ⟨ok_mX23_bad O X, List.forall_mem_cons.mpr ⟨ok_mX23_lookAt O X, List.forall_mem_cons.mpr ⟨ok_mX23_asksKinds O X, List.forall_mem_cons.mpr ⟨ok_mX23_isSeveral O X, List.forall_mem_cons.mpr ⟨ok_mX23_init O X, List.forall_mem_cons.mpr ⟨ok_mX23_beginning O X, List.forall_mem_cons.mpr ⟨ok_mX23_tellKind O X, List.forall_mem_cons.mpr ⟨ok_mX23_thrown O X, List.forall_mem_cons.mpr ⟨ok_mX23_no_ O X, List.forall_mem_cons.mpr ⟨ok_mX23_feed O X, List.forall_mem_cons.mpr ⟨ok_mX23_word_ O X, fun _ h => absurd h List.not_mem_nil⟩⟩⟩⟩⟩⟩⟩⟩⟩⟩⟩⟩
theorem hb_N23_9 (O : Nat → Option FieldType) (X : ab_X) : ∀ M ∈ [mX23_end, mX23_clear, mX23_drop, mX23_set, mX23_count, mX23_isKind, mX23_below, mX23_row, mX23_nearer_, mX23_call_, mX23_run, mX23_told], ab_OKm (hb_Gx O X) hb_TB M ∧ ab_OKc (hb_Gx O X) hb_TB M := List.forall_mem_cons.mpr ⟨ok_mX23_end O X, List.forall_mem_cons.mpr ⟨ok_mX23_clear O X, List.forall_mem_cons.mpr ⟨ok_mX23_drop O X, List.forall_mem_cons.mpr ⟨ok_mX23_set O X, List.forall_mem_cons.mpr ⟨ok_mX23_count O X, List.forall_mem_cons.mpr ⟨ok_mX23_isKind O X, List.forall_mem_cons.mpr ⟨ok_mX23_below O X, List.forall_mem_cons.mpr ⟨ok_mX23_row O X, List.forall_mem_cons.mpr ⟨ok_mX23_nearer_ O X, List.forall_mem_cons.mpr ⟨ok_mX23_call_ O X, List.forall_mem_cons.mpr ⟨ok_mX23_run O X, List.forall_mem_cons.mpr ⟨ok_mX23_told O X, fun _ h => absurd h List.not_mem_nil⟩⟩⟩⟩⟩⟩⟩⟩⟩⟩⟩⟩
theorem hb_N23_10 (O : Nat → Option FieldType) (X : ab_X) : ∀ M ∈ [mX23_shown, mX23_ran, mX23_word__], ab_OKm (hb_Gx O X) hb_TB M ∧ ab_OKc (hb_Gx O X) hb_TB M := List.forall_mem_cons.mpr ⟨ok_mX23_shown O X, List.forall_mem_cons.mpr ⟨ok_mX23_ran O X, List.forall_mem_cons.mpr ⟨ok_mX23_word__ O X, fun _ h => absurd h List.not_mem_nil⟩⟩⟩
theorem hb_N23_ok (O : Nat → Option FieldType) (X : ab_X) : ∀ M ∈ hb_N23, ab_OKm (hb_Gx O X) hb_TB M ∧ ab_OKc (hb_Gx O X) hb_TB M := by
  intro M h
  have h : M ∈ [mX23_isName, mX23_isSame, mX23_kindNamed, mX23_callNamed, mX23_layerNamed, mX23_isTold, mX23_isBelow, mX23_makeRows, mX23_isFirst, mX23_joined, mX23_isLetter, mX23_isDigit] ++ ([mX23_isHere, mX23_word, mX23_next, mX23_no, mX23_is, mX23_is_, mX23_want, mX23_want_, mX23_skip, mX23_name, mX23_breaks, mX23_into] ++ ([mX23_counted, mX23_readText, mX23_start, mX23_kind, mX23_call, mX23_layer, mX23_method, mX23_specs, mX23_signed, mX23_isThere, mX23_test, mX23_two] ++ ([mX23_conjunction, mX23_spec, mX23_single, mX23_comparison, mX23_counts, mX23_behind, mX23_e, mX23_under, mX23_compared, mX23_chain, mX23_p, mX23_named] ++ ([mX23_arguments, mX23_has, mX23_rebuild, mX23_fits, mX23_atom, mX23_atoms, mX23_see, mX23_explore, mX23_bound, mX23_both, mX23_not, mX23_takes] ++ ([mX23_holds, mX23_forget, mX23_nearer, mX23_reckoned, mX23_asksMore, mX23_group, mX23_isAlike, mX23_isNew, mX23_nothingIs, mX23_lists, mX23_cells, mX23_place] ++ ([mX23_orderCount, mX23_matter, mX23_nodeCount, mX23_order, mX23_looks, mX23_without, mX23_with, mX23_isOn, mX23_applies, mX23_term, mX23_isTrue, mX23_firstOf] ++ ([mX23_chooseRow, mX23_value, mX23_kindIn, mX23_fault, mX23_ends, mX23_step, mX23_chained, mX23_choose, mX23_further, mX23_inside, mX23_joined_, mX23_judge] ++ ([mX23_collect, mX23_bad, mX23_lookAt, mX23_asksKinds, mX23_isSeveral, mX23_init, mX23_beginning, mX23_tellKind, mX23_thrown, mX23_no_, mX23_feed, mX23_word_] ++ ([mX23_end, mX23_clear, mX23_drop, mX23_set, mX23_count, mX23_isKind, mX23_below, mX23_row, mX23_nearer_, mX23_call_, mX23_run, mX23_told] ++ ([mX23_shown, mX23_ran, mX23_word__])))))))))) := h
  rcases List.mem_append.mp h with h | h
  · exact hb_N23_0 O X M h
  rcases List.mem_append.mp h with h | h
  · exact hb_N23_1 O X M h
  rcases List.mem_append.mp h with h | h
  · exact hb_N23_2 O X M h
  rcases List.mem_append.mp h with h | h
  · exact hb_N23_3 O X M h
  rcases List.mem_append.mp h with h | h
  · exact hb_N23_4 O X M h
  rcases List.mem_append.mp h with h | h
  · exact hb_N23_5 O X M h
  rcases List.mem_append.mp h with h | h
  · exact hb_N23_6 O X M h
  rcases List.mem_append.mp h with h | h
  · exact hb_N23_7 O X M h
  rcases List.mem_append.mp h with h | h
  · exact hb_N23_8 O X M h
  rcases List.mem_append.mp h with h | h
  · exact hb_N23_9 O X M h
  exact hb_N23_10 O X M h
theorem okc_31 (O : Nat → Option FieldType) (X : ab_X) (M : ab_MI) (h1 : ab_mo M = 31) (h2 : (ab_my M).cls = RJ11) : ab_OKc (hb_Gx O X) hb_TB M := by
  intro ix sort y na ci h
  rw [h1] at h
  exact hb_T31_ok O X ix sort y na ci h M h1 h2
theorem okm_31 (O : Nat → Option FieldType) (X : ab_X) (M : ab_MI) (h1 : ab_mo M = 31) (h2 : (ab_my M).cls = RJ11) (hc : Cond.code (ab_my M) (ab_mc M) (ab_mL M) (ab_mr M) ∈ hb_TB) (hl : ab_mL M ≤ 21) (hi : ab_mi M = true → (ab_my M).name = "<init>") : ab_OKm (hb_Gx O X) hb_TB M := by
  refine ⟨hc, by rw [h2]; decide +kernel, hl, hi, ?_, ?_, ?_, ?_⟩
  · rw [h1, h2]
    exact hb_F31_ok _
  · rw [h1, h2]
    exact hb_C31_ok
  · rw [h1, h2]
    exact hb_I31_ok
  · rw [h1, h2]
    exact hb_L31_ok
theorem ok_mJ11_isValidCodePoint_9a6ad (O : Nat → Option FieldType) (X : ab_X) : ab_OKm (hb_Gx O X) hb_TB mJ11_isValidCodePoint_9a6ad ∧ ab_OKc (hb_Gx O X) hb_TB mJ11_isValidCodePoint_9a6ad := ⟨okm_31 O X _ rfl rfl (hb_w5 2 ⟨rfl, rfl⟩) (by decide) (fun h => by cases h), okc_31 O X _ rfl rfl⟩
theorem ok_mJ11_highSurrogate_5068e (O : Nat → Option FieldType) (X : ab_X) : ab_OKm (hb_Gx O X) hb_TB mJ11_highSurrogate_5068e ∧ ab_OKc (hb_Gx O X) hb_TB mJ11_highSurrogate_5068e := ⟨okm_31 O X _ rfl rfl (hb_w5 5 ⟨rfl, rfl⟩) (by decide) (fun h => by cases h), okc_31 O X _ rfl rfl⟩
theorem ok_mJ11_lowSurrogate_5068e (O : Nat → Option FieldType) (X : ab_X) : ab_OKm (hb_Gx O X) hb_TB mJ11_lowSurrogate_5068e ∧ ab_OKc (hb_Gx O X) hb_TB mJ11_lowSurrogate_5068e := ⟨okm_31 O X _ rfl rfl (hb_w5 9 ⟨rfl, rfl⟩) (by decide) (fun h => by cases h), okc_31 O X _ rfl rfl⟩
theorem hb_N31_0 (O : Nat → Option FieldType) (X : ab_X) : ∀ M ∈ [mJ11_isValidCodePoint_9a6ad, mJ11_highSurrogate_5068e, mJ11_lowSurrogate_5068e], ab_OKm (hb_Gx O X) hb_TB M ∧ ab_OKc (hb_Gx O X) hb_TB M := List.forall_mem_cons.mpr ⟨ok_mJ11_isValidCodePoint_9a6ad O X, List.forall_mem_cons.mpr ⟨ok_mJ11_highSurrogate_5068e O X, List.forall_mem_cons.mpr ⟨ok_mJ11_lowSurrogate_5068e O X, fun _ h => absurd h List.not_mem_nil⟩⟩⟩
theorem hb_N31_ok (O : Nat → Option FieldType) (X : ab_X) : ∀ M ∈ hb_N31, ab_OKm (hb_Gx O X) hb_TB M ∧ ab_OKc (hb_Gx O X) hb_TB M := by
  intro M h
  have h : M ∈ [mJ11_isValidCodePoint_9a6ad, mJ11_highSurrogate_5068e, mJ11_lowSurrogate_5068e] := h
  exact hb_N31_0 O X M h
theorem okc_33 (O : Nat → Option FieldType) (X : ab_X) (M : ab_MI) (h1 : ab_mo M = 33) (h2 : (ab_my M).cls = RJ6) : ab_OKc (hb_Gx O X) hb_TB M := by
  intro ix sort y na ci h
  rw [h1] at h
  exact hb_T33_ok O X ix sort y na ci h M h1 h2
theorem okm_33 (O : Nat → Option FieldType) (X : ab_X) (M : ab_MI) (h1 : ab_mo M = 33) (h2 : (ab_my M).cls = RJ6) (hc : Cond.code (ab_my M) (ab_mc M) (ab_mL M) (ab_mr M) ∈ hb_TB) (hl : ab_mL M ≤ 21) (hi : ab_mi M = true → (ab_my M).name = "<init>") : ab_OKm (hb_Gx O X) hb_TB M := by
  refine ⟨hc, by rw [h2]; decide +kernel, hl, hi, ?_, ?_, ?_, ?_⟩
  · rw [h1, h2]
    exact hb_F33_ok _
  · rw [h1, h2]
    exact hb_C33_ok
  · rw [h1, h2]
    exact hb_I33_ok
  · rw [h1, h2]
    exact hb_L33_ok
theorem ok_mJ6_compare_7cf53 (O : Nat → Option FieldType) (X : ab_X) : ab_OKm (hb_Gx O X) hb_TB mJ6_compare_7cf53 ∧ ab_OKc (hb_Gx O X) hb_TB mJ6_compare_7cf53 := ⟨okm_33 O X _ rfl rfl (hb_w6 239 ⟨rfl, rfl⟩) (by decide) (fun h => by cases h), okc_33 O X _ rfl rfl⟩
theorem ok_mJ6_numberOfTrailingZeros_0f7a4 (O : Nat → Option FieldType) (X : ab_X) : ab_OKm (hb_Gx O X) hb_TB mJ6_numberOfTrailingZeros_0f7a4 ∧ ab_OKc (hb_Gx O X) hb_TB mJ6_numberOfTrailingZeros_0f7a4 := ⟨okm_33 O X _ rfl rfl (hb_w7 95 ⟨rfl, rfl⟩) (by decide) (fun h => by cases h), okc_33 O X _ rfl rfl⟩
theorem ok_mJ6_bitCount_0f7a4 (O : Nat → Option FieldType) (X : ab_X) : ab_OKm (hb_Gx O X) hb_TB mJ6_bitCount_0f7a4 ∧ ab_OKc (hb_Gx O X) hb_TB mJ6_bitCount_0f7a4 := ⟨okm_33 O X _ rfl rfl (hb_w2 53 ⟨rfl, rfl⟩) (by decide) (fun h => by cases h), okc_33 O X _ rfl rfl⟩
theorem hb_N33_0 (O : Nat → Option FieldType) (X : ab_X) : ∀ M ∈ [mJ6_compare_7cf53, mJ6_numberOfTrailingZeros_0f7a4, mJ6_bitCount_0f7a4], ab_OKm (hb_Gx O X) hb_TB M ∧ ab_OKc (hb_Gx O X) hb_TB M := List.forall_mem_cons.mpr ⟨ok_mJ6_compare_7cf53 O X, List.forall_mem_cons.mpr ⟨ok_mJ6_numberOfTrailingZeros_0f7a4 O X, List.forall_mem_cons.mpr ⟨ok_mJ6_bitCount_0f7a4 O X, fun _ h => absurd h List.not_mem_nil⟩⟩⟩
theorem hb_N33_ok (O : Nat → Option FieldType) (X : ab_X) : ∀ M ∈ hb_N33, ab_OKm (hb_Gx O X) hb_TB M ∧ ab_OKc (hb_Gx O X) hb_TB M := by
  intro M h
  have h : M ∈ [mJ6_compare_7cf53, mJ6_numberOfTrailingZeros_0f7a4, mJ6_bitCount_0f7a4] := h
  exact hb_N33_0 O X M h
theorem okc_35 (O : Nat → Option FieldType) (X : ab_X) (M : ab_MI) (h1 : ab_mo M = 35) (h2 : (ab_my M).cls = RJ13) : ab_OKc (hb_Gx O X) hb_TB M := by
  intro ix sort y na ci h
  rw [h1] at h
  exact hb_T35_ok O X ix sort y na ci h M h1 h2
theorem okm_35 (O : Nat → Option FieldType) (X : ab_X) (M : ab_MI) (h1 : ab_mo M = 35) (h2 : (ab_my M).cls = RJ13) (hc : Cond.code (ab_my M) (ab_mc M) (ab_mL M) (ab_mr M) ∈ hb_TB) (hl : ab_mL M ≤ 21) (hi : ab_mi M = true → (ab_my M).name = "<init>") : ab_OKm (hb_Gx O X) hb_TB M := by
  refine ⟨hc, by rw [h2]; decide +kernel, hl, hi, ?_, ?_, ?_, ?_⟩
  · rw [h1, h2]
    exact hb_F35_ok _
  · rw [h1, h2]
    exact hb_C35_ok
  · rw [h1, h2]
    exact hb_I35_ok
  · rw [h1, h2]
    exact hb_L35_ok
theorem ok_mJ13_numberOfTrailingZeros_95d88 (O : Nat → Option FieldType) (X : ab_X) : ab_OKm (hb_Gx O X) hb_TB mJ13_numberOfTrailingZeros_95d88 ∧ ab_OKc (hb_Gx O X) hb_TB mJ13_numberOfTrailingZeros_95d88 := ⟨okm_35 O X _ rfl rfl (hb_w7 92 ⟨rfl, rfl⟩) (by decide) (fun h => by cases h), okc_35 O X _ rfl rfl⟩
theorem ok_mJ13_bitCount_95d88 (O : Nat → Option FieldType) (X : ab_X) : ab_OKm (hb_Gx O X) hb_TB mJ13_bitCount_95d88 ∧ ab_OKc (hb_Gx O X) hb_TB mJ13_bitCount_95d88 := ⟨okm_35 O X _ rfl rfl (hb_w7 13 ⟨rfl, rfl⟩) (by decide) (fun h => by cases h), okc_35 O X _ rfl rfl⟩
theorem ok_mJ13_signum_95d88 (O : Nat → Option FieldType) (X : ab_X) : ab_OKm (hb_Gx O X) hb_TB mJ13_signum_95d88 ∧ ab_OKc (hb_Gx O X) hb_TB mJ13_signum_95d88 := ⟨okm_35 O X _ rfl rfl (hb_w13 37 ⟨rfl, rfl⟩) (by decide) (fun h => by cases h), okc_35 O X _ rfl rfl⟩
theorem hb_N35_0 (O : Nat → Option FieldType) (X : ab_X) : ∀ M ∈ [mJ13_numberOfTrailingZeros_95d88, mJ13_bitCount_95d88, mJ13_signum_95d88], ab_OKm (hb_Gx O X) hb_TB M ∧ ab_OKc (hb_Gx O X) hb_TB M := List.forall_mem_cons.mpr ⟨ok_mJ13_numberOfTrailingZeros_95d88 O X, List.forall_mem_cons.mpr ⟨ok_mJ13_bitCount_95d88 O X, List.forall_mem_cons.mpr ⟨ok_mJ13_signum_95d88 O X, fun _ h => absurd h List.not_mem_nil⟩⟩⟩
theorem hb_N35_ok (O : Nat → Option FieldType) (X : ab_X) : ∀ M ∈ hb_N35, ab_OKm (hb_Gx O X) hb_TB M ∧ ab_OKc (hb_Gx O X) hb_TB M := by
  intro M h
  have h : M ∈ [mJ13_numberOfTrailingZeros_95d88, mJ13_bitCount_95d88, mJ13_signum_95d88] := h
  exact hb_N35_0 O X M h
theorem okc_37 (O : Nat → Option FieldType) (X : ab_X) (M : ab_MI) (h1 : ab_mo M = 37) (h2 : (ab_my M).cls = RJ0) : ab_OKc (hb_Gx O X) hb_TB M := by
  intro ix sort y na ci h
  rw [h1] at h
  exact hb_T37_ok O X ix sort y na ci h M h1 h2
theorem okm_37 (O : Nat → Option FieldType) (X : ab_X) (M : ab_MI) (h1 : ab_mo M = 37) (h2 : (ab_my M).cls = RJ0) (hc : Cond.code (ab_my M) (ab_mc M) (ab_mL M) (ab_mr M) ∈ hb_TB) (hl : ab_mL M ≤ 21) (hi : ab_mi M = true → (ab_my M).name = "<init>") : ab_OKm (hb_Gx O X) hb_TB M := by
  refine ⟨hc, by rw [h2]; decide +kernel, hl, hi, ?_, ?_, ?_, ?_⟩
  · rw [h1, h2]
    exact hb_F37_ok _
  · rw [h1, h2]
    exact hb_C37_ok
  · rw [h1, h2]
    exact hb_I37_ok
  · rw [h1, h2]
    exact hb_L37_ok
theorem ok_mJ0_length_8abf5 (O : Nat → Option FieldType) (X : ab_X) : ab_OKm (hb_Gx O X) hb_TB mJ0_length_8abf5 ∧ ab_OKc (hb_Gx O X) hb_TB mJ0_length_8abf5 := ⟨okm_37 O X _ rfl rfl (hb_w1 225 ⟨rfl, rfl⟩) (by decide) (fun h => by cases h), okc_37 O X _ rfl rfl⟩
theorem ok_mJ0_charAt_5068e (O : Nat → Option FieldType) (X : ab_X) : ab_OKm (hb_Gx O X) hb_TB mJ0_charAt_5068e ∧ ab_OKc (hb_Gx O X) hb_TB mJ0_charAt_5068e := ⟨okm_37 O X _ rfl rfl (hb_w1 235 ⟨rfl, rfl⟩) (by decide) (fun h => by cases h), okc_37 O X _ rfl rfl⟩
theorem ok_mJ0_equals_9ea2d (O : Nat → Option FieldType) (X : ab_X) : ab_OKm (hb_Gx O X) hb_TB mJ0_equals_9ea2d ∧ ab_OKc (hb_Gx O X) hb_TB mJ0_equals_9ea2d := ⟨okm_37 O X _ rfl rfl (hb_w11 110 ⟨rfl, rfl⟩) (by decide) (fun h => by cases h), okc_37 O X _ rfl rfl⟩
theorem ok_mJ0_indexOf_0f7a4 (O : Nat → Option FieldType) (X : ab_X) : ab_OKm (hb_Gx O X) hb_TB mJ0_indexOf_0f7a4 ∧ ab_OKc (hb_Gx O X) hb_TB mJ0_indexOf_0f7a4 := ⟨okm_37 O X _ rfl rfl (hb_w4 197 ⟨rfl, rfl⟩) (by decide) (fun h => by cases h), okc_37 O X _ rfl rfl⟩
theorem ok_mJ0_indexOf_7cf53 (O : Nat → Option FieldType) (X : ab_X) : ab_OKm (hb_Gx O X) hb_TB mJ0_indexOf_7cf53 ∧ ab_OKc (hb_Gx O X) hb_TB mJ0_indexOf_7cf53 := ⟨okm_37 O X _ rfl rfl (hb_w4 201 ⟨rfl, rfl⟩) (by decide) (fun h => by cases h), okc_37 O X _ rfl rfl⟩
theorem ok_mJ0_coder_7d493 (O : Nat → Option FieldType) (X : ab_X) : ab_OKm (hb_Gx O X) hb_TB mJ0_coder_7d493 ∧ ab_OKc (hb_Gx O X) hb_TB mJ0_coder_7d493 := ⟨okm_37 O X _ rfl rfl (hb_w1 229 ⟨rfl, rfl⟩) (by decide) (fun h => by cases h), okc_37 O X _ rfl rfl⟩
theorem ok_mJ0_isLatin1_aae02 (O : Nat → Option FieldType) (X : ab_X) : ab_OKm (hb_Gx O X) hb_TB mJ0_isLatin1_aae02 ∧ ab_OKc (hb_Gx O X) hb_TB mJ0_isLatin1_aae02 := ⟨okm_37 O X _ rfl rfl (hb_w1 239 ⟨rfl, rfl⟩) (by decide) (fun h => by cases h), okc_37 O X _ rfl rfl⟩
theorem ok_mJ0_checkIndex_df160 (O : Nat → Option FieldType) (X : ab_X) : ab_OKm (hb_Gx O X) hb_TB mJ0_checkIndex_df160 ∧ ab_OKc (hb_Gx O X) hb_TB mJ0_checkIndex_df160 := ⟨okm_37 O X _ rfl rfl (hb_w2 5 ⟨rfl, rfl⟩) (by decide) (fun h => by cases h), okc_37 O X _ rfl rfl⟩
theorem ok_mJ0_checkBoundsBeginEnd_23922 (O : Nat → Option FieldType) (X : ab_X) : ab_OKm (hb_Gx O X) hb_TB mJ0_checkBoundsBeginEnd_23922 ∧ ab_OKc (hb_Gx O X) hb_TB mJ0_checkBoundsBeginEnd_23922 := ⟨okm_37 O X _ rfl rfl (hb_w4 230 ⟨rfl, rfl⟩) (by decide) (fun h => by cases h), okc_37 O X _ rfl rfl⟩
theorem hb_N37_0 (O : Nat → Option FieldType) (X : ab_X) : ∀ M ∈ [mJ0_length_8abf5, mJ0_charAt_5068e, mJ0_equals_9ea2d, mJ0_indexOf_0f7a4, mJ0_indexOf_7cf53, mJ0_coder_7d493, mJ0_isLatin1_aae02, mJ0_checkIndex_df160, mJ0_checkBoundsBeginEnd_23922], ab_OKm (hb_Gx O X) hb_TB M ∧ ab_OKc (hb_Gx O X) hb_TB M := List.forall_mem_cons.mpr ⟨ok_mJ0_length_8abf5 O X, List.forall_mem_cons.mpr ⟨ok_mJ0_charAt_5068e O X, List.forall_mem_cons.mpr ⟨ok_mJ0_equals_9ea2d O X, List.forall_mem_cons.mpr ⟨ok_mJ0_indexOf_0f7a4 O X, List.forall_mem_cons.mpr ⟨ok_mJ0_indexOf_7cf53 O X, List.forall_mem_cons.mpr ⟨ok_mJ0_coder_7d493 O X, List.forall_mem_cons.mpr ⟨ok_mJ0_isLatin1_aae02 O X, List.forall_mem_cons.mpr ⟨ok_mJ0_checkIndex_df160 O X, List.forall_mem_cons.mpr ⟨ok_mJ0_checkBoundsBeginEnd_23922 O X, fun _ h => absurd h List.not_mem_nil⟩⟩⟩⟩⟩⟩⟩⟩⟩
theorem hb_N37_ok (O : Nat → Option FieldType) (X : ab_X) : ∀ M ∈ hb_N37, ab_OKm (hb_Gx O X) hb_TB M ∧ ab_OKc (hb_Gx O X) hb_TB M := by
  intro M h
  have h : M ∈ [mJ0_length_8abf5, mJ0_charAt_5068e, mJ0_equals_9ea2d, mJ0_indexOf_0f7a4, mJ0_indexOf_7cf53, mJ0_coder_7d493, mJ0_isLatin1_aae02, mJ0_checkIndex_df160, mJ0_checkBoundsBeginEnd_23922] := h
  exact hb_N37_0 O X M h
theorem okc_38 (O : Nat → Option FieldType) (X : ab_X) (M : ab_MI) (h1 : ab_mo M = 38) (h2 : (ab_my M).cls = RJ1) : ab_OKc (hb_Gx O X) hb_TB M := by
  intro ix sort y na ci h
  rw [h1] at h
  exact hb_T38_ok O X ix sort y na ci h M h1 h2
theorem okm_38 (O : Nat → Option FieldType) (X : ab_X) (M : ab_MI) (h1 : ab_mo M = 38) (h2 : (ab_my M).cls = RJ1) (hc : Cond.code (ab_my M) (ab_mc M) (ab_mL M) (ab_mr M) ∈ hb_TB) (hl : ab_mL M ≤ 21) (hi : ab_mi M = true → (ab_my M).name = "<init>") : ab_OKm (hb_Gx O X) hb_TB M := by
  refine ⟨hc, by rw [h2]; decide +kernel, hl, hi, ?_, ?_, ?_, ?_⟩
  · rw [h1, h2]
    exact hb_F38_ok _
  · rw [h1, h2]
    exact hb_C38_ok
  · rw [h1, h2]
    exact hb_I38_ok
  · rw [h1, h2]
    exact hb_L38_ok
theorem ok_mJ1_charAt_3b067 (O : Nat → Option FieldType) (X : ab_X) : ab_OKm (hb_Gx O X) hb_TB mJ1_charAt_3b067 ∧ ab_OKc (hb_Gx O X) hb_TB mJ1_charAt_3b067 := ⟨okm_38 O X _ rfl rfl (hb_w2 2 ⟨rfl, rfl⟩) (by decide) (fun h => by cases h), okc_38 O X _ rfl rfl⟩
theorem ok_mJ1_canEncode_9a6ad (O : Nat → Option FieldType) (X : ab_X) : ab_OKm (hb_Gx O X) hb_TB mJ1_canEncode_9a6ad ∧ ab_OKc (hb_Gx O X) hb_TB mJ1_canEncode_9a6ad := ⟨okm_38 O X _ rfl rfl (hb_w4 208 ⟨rfl, rfl⟩) (by decide) (fun h => by cases h), okc_38 O X _ rfl rfl⟩
theorem ok_mJ1_equals_b5fdf (O : Nat → Option FieldType) (X : ab_X) : ab_OKm (hb_Gx O X) hb_TB mJ1_equals_b5fdf ∧ ab_OKc (hb_Gx O X) hb_TB mJ1_equals_b5fdf := ⟨okm_38 O X _ rfl rfl (hb_w11 114 ⟨rfl, rfl⟩) (by decide) (fun h => by cases h), okc_38 O X _ rfl rfl⟩
theorem ok_mJ1_indexOf_4cfef (O : Nat → Option FieldType) (X : ab_X) : ab_OKm (hb_Gx O X) hb_TB mJ1_indexOf_4cfef ∧ ab_OKc (hb_Gx O X) hb_TB mJ1_indexOf_4cfef := ⟨okm_38 O X _ rfl rfl (hb_w4 205 ⟨rfl, rfl⟩) (by decide) (fun h => by cases h), okc_38 O X _ rfl rfl⟩
theorem ok_mJ1_indexOfChar_4cfef (O : Nat → Option FieldType) (X : ab_X) : ab_OKm (hb_Gx O X) hb_TB mJ1_indexOfChar_4cfef ∧ ab_OKc (hb_Gx O X) hb_TB mJ1_indexOfChar_4cfef := ⟨okm_38 O X _ rfl rfl (hb_w4 215 ⟨rfl, rfl⟩) (by decide) (fun h => by cases h), okc_38 O X _ rfl rfl⟩
theorem hb_N38_0 (O : Nat → Option FieldType) (X : ab_X) : ∀ M ∈ [mJ1_charAt_3b067, mJ1_canEncode_9a6ad, mJ1_equals_b5fdf, mJ1_indexOf_4cfef, mJ1_indexOfChar_4cfef], ab_OKm (hb_Gx O X) hb_TB M ∧ ab_OKc (hb_Gx O X) hb_TB M := List.forall_mem_cons.mpr ⟨ok_mJ1_charAt_3b067 O X, List.forall_mem_cons.mpr ⟨ok_mJ1_canEncode_9a6ad O X, List.forall_mem_cons.mpr ⟨ok_mJ1_equals_b5fdf O X, List.forall_mem_cons.mpr ⟨ok_mJ1_indexOf_4cfef O X, List.forall_mem_cons.mpr ⟨ok_mJ1_indexOfChar_4cfef O X, fun _ h => absurd h List.not_mem_nil⟩⟩⟩⟩⟩
theorem hb_N38_ok (O : Nat → Option FieldType) (X : ab_X) : ∀ M ∈ hb_N38, ab_OKm (hb_Gx O X) hb_TB M ∧ ab_OKc (hb_Gx O X) hb_TB M := by
  intro M h
  have h : M ∈ [mJ1_charAt_3b067, mJ1_canEncode_9a6ad, mJ1_equals_b5fdf, mJ1_indexOf_4cfef, mJ1_indexOfChar_4cfef] := h
  exact hb_N38_0 O X M h
theorem okc_39 (O : Nat → Option FieldType) (X : ab_X) (M : ab_MI) (h1 : ab_mo M = 39) (h2 : (ab_my M).cls = RJ2) : ab_OKc (hb_Gx O X) hb_TB M := by
  intro ix sort y na ci h
  rw [h1] at h
  exact hb_T39_ok O X ix sort y na ci h M h1 h2
theorem okm_39 (O : Nat → Option FieldType) (X : ab_X) (M : ab_MI) (h1 : ab_mo M = 39) (h2 : (ab_my M).cls = RJ2) (hc : Cond.code (ab_my M) (ab_mc M) (ab_mL M) (ab_mr M) ∈ hb_TB) (hl : ab_mL M ≤ 21) (hi : ab_mi M = true → (ab_my M).name = "<init>") : ab_OKm (hb_Gx O X) hb_TB M := by
  refine ⟨hc, by rw [h2]; decide +kernel, hl, hi, ?_, ?_, ?_, ?_⟩
  · rw [h1, h2]
    exact hb_F39_ok _
  · rw [h1, h2]
    exact hb_C39_ok
  · rw [h1, h2]
    exact hb_I39_ok
  · rw [h1, h2]
    exact hb_L39_ok
theorem ok_mJ2_getChar_3b067 (O : Nat → Option FieldType) (X : ab_X) : ab_OKm (hb_Gx O X) hb_TB mJ2_getChar_3b067 ∧ ab_OKc (hb_Gx O X) hb_TB mJ2_getChar_3b067 := ⟨okm_39 O X _ rfl rfl (hb_w2 23 ⟨rfl, rfl⟩) (by decide) (fun h => by cases h), okc_39 O X _ rfl rfl⟩
theorem ok_mJ2_length_9d52b (O : Nat → Option FieldType) (X : ab_X) : ab_OKm (hb_Gx O X) hb_TB mJ2_length_9d52b ∧ ab_OKc (hb_Gx O X) hb_TB mJ2_length_9d52b := ⟨okm_39 O X _ rfl rfl (hb_w2 19 ⟨rfl, rfl⟩) (by decide) (fun h => by cases h), okc_39 O X _ rfl rfl⟩
theorem ok_mJ2_indexOf_4cfef (O : Nat → Option FieldType) (X : ab_X) : ab_OKm (hb_Gx O X) hb_TB mJ2_indexOf_4cfef ∧ ab_OKc (hb_Gx O X) hb_TB mJ2_indexOf_4cfef := ⟨okm_39 O X _ rfl rfl (hb_w4 218 ⟨rfl, rfl⟩) (by decide) (fun h => by cases h), okc_39 O X _ rfl rfl⟩
theorem ok_mJ2_indexOfChar_4cfef (O : Nat → Option FieldType) (X : ab_X) : ab_OKm (hb_Gx O X) hb_TB mJ2_indexOfChar_4cfef ∧ ab_OKc (hb_Gx O X) hb_TB mJ2_indexOfChar_4cfef := ⟨okm_39 O X _ rfl rfl (hb_w4 224 ⟨rfl, rfl⟩) (by decide) (fun h => by cases h), okc_39 O X _ rfl rfl⟩
theorem ok_mJ2_indexOfCharUnsafe_4cfef (O : Nat → Option FieldType) (X : ab_X) : ab_OKm (hb_Gx O X) hb_TB mJ2_indexOfCharUnsafe_4cfef ∧ ab_OKc (hb_Gx O X) hb_TB mJ2_indexOfCharUnsafe_4cfef := ⟨okm_39 O X _ rfl rfl (hb_w4 236 ⟨rfl, rfl⟩) (by decide) (fun h => by cases h), okc_39 O X _ rfl rfl⟩
theorem ok_mJ2_indexOfSupplementary_4cfef (O : Nat → Option FieldType) (X : ab_X) : ab_OKm (hb_Gx O X) hb_TB mJ2_indexOfSupplementary_4cfef ∧ ab_OKc (hb_Gx O X) hb_TB mJ2_indexOfSupplementary_4cfef := ⟨okm_39 O X _ rfl rfl (hb_w4 239 ⟨rfl, rfl⟩) (by decide) (fun h => by cases h), okc_39 O X _ rfl rfl⟩
theorem ok_mJ2_charAt_3b067 (O : Nat → Option FieldType) (X : ab_X) : ab_OKm (hb_Gx O X) hb_TB mJ2_charAt_3b067 ∧ ab_OKc (hb_Gx O X) hb_TB mJ2_charAt_3b067 := ⟨okm_39 O X _ rfl rfl (hb_w2 13 ⟨rfl, rfl⟩) (by decide) (fun h => by cases h), okc_39 O X _ rfl rfl⟩
theorem ok_mJ2_checkIndex_2214a (O : Nat → Option FieldType) (X : ab_X) : ab_OKm (hb_Gx O X) hb_TB mJ2_checkIndex_2214a ∧ ab_OKc (hb_Gx O X) hb_TB mJ2_checkIndex_2214a := ⟨okm_39 O X _ rfl rfl (hb_w2 16 ⟨rfl, rfl⟩) (by decide) (fun h => by cases h), okc_39 O X _ rfl rfl⟩
theorem ok_mJ2_checkBoundsBeginEnd_d044e (O : Nat → Option FieldType) (X : ab_X) : ab_OKm (hb_Gx O X) hb_TB mJ2_checkBoundsBeginEnd_d044e ∧ ab_OKc (hb_Gx O X) hb_TB mJ2_checkBoundsBeginEnd_d044e := ⟨okm_39 O X _ rfl rfl (hb_w4 227 ⟨rfl, rfl⟩) (by decide) (fun h => by cases h), okc_39 O X _ rfl rfl⟩
theorem hb_N39_0 (O : Nat → Option FieldType) (X : ab_X) : ∀ M ∈ [mJ2_getChar_3b067, mJ2_length_9d52b, mJ2_indexOf_4cfef, mJ2_indexOfChar_4cfef, mJ2_indexOfCharUnsafe_4cfef, mJ2_indexOfSupplementary_4cfef, mJ2_charAt_3b067, mJ2_checkIndex_2214a, mJ2_checkBoundsBeginEnd_d044e], ab_OKm (hb_Gx O X) hb_TB M ∧ ab_OKc (hb_Gx O X) hb_TB M := List.forall_mem_cons.mpr ⟨ok_mJ2_getChar_3b067 O X, List.forall_mem_cons.mpr ⟨ok_mJ2_length_9d52b O X, List.forall_mem_cons.mpr ⟨ok_mJ2_indexOf_4cfef O X, List.forall_mem_cons.mpr ⟨ok_mJ2_indexOfChar_4cfef O X, List.forall_mem_cons.mpr ⟨ok_mJ2_indexOfCharUnsafe_4cfef O X, List.forall_mem_cons.mpr ⟨ok_mJ2_indexOfSupplementary_4cfef O X, List.forall_mem_cons.mpr ⟨ok_mJ2_charAt_3b067 O X, List.forall_mem_cons.mpr ⟨ok_mJ2_checkIndex_2214a O X, List.forall_mem_cons.mpr ⟨ok_mJ2_checkBoundsBeginEnd_d044e O X, fun _ h => absurd h List.not_mem_nil⟩⟩⟩⟩⟩⟩⟩⟩⟩
theorem hb_N39_ok (O : Nat → Option FieldType) (X : ab_X) : ∀ M ∈ hb_N39, ab_OKm (hb_Gx O X) hb_TB M ∧ ab_OKc (hb_Gx O X) hb_TB M := by
  intro M h
  have h : M ∈ [mJ2_getChar_3b067, mJ2_length_9d52b, mJ2_indexOf_4cfef, mJ2_indexOfChar_4cfef, mJ2_indexOfCharUnsafe_4cfef, mJ2_indexOfSupplementary_4cfef, mJ2_charAt_3b067, mJ2_checkIndex_2214a, mJ2_checkBoundsBeginEnd_d044e] := h
  exact hb_N39_0 O X M h
theorem okc_41 (O : Nat → Option FieldType) (X : ab_X) (M : ab_MI) (h1 : ab_mo M = 41) (h2 : (ab_my M).cls = RJxa1e45) : ab_OKc (hb_Gx O X) hb_TB M := by
  intro ix sort y na ci h
  rw [h1] at h
  exact hb_T41_ok O X ix sort y na ci h M h1 h2
theorem okm_41 (O : Nat → Option FieldType) (X : ab_X) (M : ab_MI) (h1 : ab_mo M = 41) (h2 : (ab_my M).cls = RJxa1e45) (hc : Cond.code (ab_my M) (ab_mc M) (ab_mL M) (ab_mr M) ∈ hb_TB) (hl : ab_mL M ≤ 21) (hi : ab_mi M = true → (ab_my M).name = "<init>") : ab_OKm (hb_Gx O X) hb_TB M := by
  refine ⟨hc, by rw [h2]; decide +kernel, hl, hi, ?_, ?_, ?_, ?_⟩
  · rw [h1, h2]
    exact hb_F41_ok _
  · rw [h1, h2]
    exact hb_C41_ok
  · rw [h1, h2]
    exact hb_I41_ok
  · rw [h1, h2]
    exact hb_L41_ok
theorem ok_mJxa1e45_init_da8c8 (O : Nat → Option FieldType) (X : ab_X) : ab_OKm (hb_Gx O X) hb_TB mJxa1e45_init_da8c8 ∧ ab_OKc (hb_Gx O X) hb_TB mJxa1e45_init_da8c8 := ⟨okm_41 O X _ rfl rfl (hb_w8 131 ⟨rfl, rfl⟩) (by decide) (fun _ => rfl), okc_41 O X _ rfl rfl⟩
theorem hb_N41_0 (O : Nat → Option FieldType) (X : ab_X) : ∀ M ∈ [mJxa1e45_init_da8c8], ab_OKm (hb_Gx O X) hb_TB M ∧ ab_OKc (hb_Gx O X) hb_TB M := List.forall_mem_cons.mpr ⟨ok_mJxa1e45_init_da8c8 O X, fun _ h => absurd h List.not_mem_nil⟩
theorem hb_N41_ok (O : Nat → Option FieldType) (X : ab_X) : ∀ M ∈ hb_N41, ab_OKm (hb_Gx O X) hb_TB M ∧ ab_OKc (hb_Gx O X) hb_TB M := by
  intro M h
  have h : M ∈ [mJxa1e45_init_da8c8] := h
  exact hb_N41_0 O X M h
theorem okc_42 (O : Nat → Option FieldType) (X : ab_X) (M : ab_MI) (h1 : ab_mo M = 42) (h2 : (ab_my M).cls = RJxc12de) : ab_OKc (hb_Gx O X) hb_TB M := by
  intro ix sort y na ci h
  rw [h1] at h
  exact hb_T42_ok O X ix sort y na ci h M h1 h2
theorem okm_42 (O : Nat → Option FieldType) (X : ab_X) (M : ab_MI) (h1 : ab_mo M = 42) (h2 : (ab_my M).cls = RJxc12de) (hc : Cond.code (ab_my M) (ab_mc M) (ab_mL M) (ab_mr M) ∈ hb_TB) (hl : ab_mL M ≤ 21) (hi : ab_mi M = true → (ab_my M).name = "<init>") : ab_OKm (hb_Gx O X) hb_TB M := by
  refine ⟨hc, by rw [h2]; decide +kernel, hl, hi, ?_, ?_, ?_, ?_⟩
  · rw [h1, h2]
    exact hb_F42_ok _
  · rw [h1, h2]
    exact hb_C42_ok
  · rw [h1, h2]
    exact hb_I42_ok
  · rw [h1, h2]
    exact hb_L42_ok
theorem ok_mJxc12de_init_da8c8 (O : Nat → Option FieldType) (X : ab_X) : ab_OKm (hb_Gx O X) hb_TB mJxc12de_init_da8c8 ∧ ab_OKc (hb_Gx O X) hb_TB mJxc12de_init_da8c8 := ⟨okm_42 O X _ rfl rfl (hb_w8 128 ⟨rfl, rfl⟩) (by decide) (fun _ => rfl), okc_42 O X _ rfl rfl⟩
theorem hb_N42_0 (O : Nat → Option FieldType) (X : ab_X) : ∀ M ∈ [mJxc12de_init_da8c8], ab_OKm (hb_Gx O X) hb_TB M ∧ ab_OKc (hb_Gx O X) hb_TB M := List.forall_mem_cons.mpr ⟨ok_mJxc12de_init_da8c8 O X, fun _ h => absurd h List.not_mem_nil⟩
theorem hb_N42_ok (O : Nat → Option FieldType) (X : ab_X) : ∀ M ∈ hb_N42, ab_OKm (hb_Gx O X) hb_TB M ∧ ab_OKc (hb_Gx O X) hb_TB M := by
  intro M h
  have h : M ∈ [mJxc12de_init_da8c8] := h
  exact hb_N42_0 O X M h
theorem okc_43 (O : Nat → Option FieldType) (X : ab_X) (M : ab_MI) (h1 : ab_mo M = 43) (h2 : (ab_my M).cls = RJx4a65c) : ab_OKc (hb_Gx O X) hb_TB M := by
  intro ix sort y na ci h
  rw [h1] at h
  exact hb_T43_ok O X ix sort y na ci h M h1 h2
theorem okm_43 (O : Nat → Option FieldType) (X : ab_X) (M : ab_MI) (h1 : ab_mo M = 43) (h2 : (ab_my M).cls = RJx4a65c) (hc : Cond.code (ab_my M) (ab_mc M) (ab_mL M) (ab_mr M) ∈ hb_TB) (hl : ab_mL M ≤ 21) (hi : ab_mi M = true → (ab_my M).name = "<init>") : ab_OKm (hb_Gx O X) hb_TB M := by
  refine ⟨hc, by rw [h2]; decide +kernel, hl, hi, ?_, ?_, ?_, ?_⟩
  · rw [h1, h2]
    exact hb_F43_ok _
  · rw [h1, h2]
    exact hb_C43_ok
  · rw [h1, h2]
    exact hb_I43_ok
  · rw [h1, h2]
    exact hb_L43_ok
theorem ok_mJx4a65c_init_da8c8 (O : Nat → Option FieldType) (X : ab_X) : ab_OKm (hb_Gx O X) hb_TB mJx4a65c_init_da8c8 ∧ ab_OKc (hb_Gx O X) hb_TB mJx4a65c_init_da8c8 := ⟨okm_43 O X _ rfl rfl (hb_w8 125 ⟨rfl, rfl⟩) (by decide) (fun _ => rfl), okc_43 O X _ rfl rfl⟩
theorem ok_mJx4a65c_grow_92f84 (O : Nat → Option FieldType) (X : ab_X) : ab_OKm (hb_Gx O X) hb_TB mJx4a65c_grow_92f84 ∧ ab_OKc (hb_Gx O X) hb_TB mJx4a65c_grow_92f84 := ⟨okm_43 O X _ rfl rfl (hb_w12 63 ⟨rfl, rfl⟩) (by decide) (fun h => by cases h), okc_43 O X _ rfl rfl⟩
theorem ok_mJx4a65c_grow_d5877 (O : Nat → Option FieldType) (X : ab_X) : ab_OKm (hb_Gx O X) hb_TB mJx4a65c_grow_d5877 ∧ ab_OKc (hb_Gx O X) hb_TB mJx4a65c_grow_d5877 := ⟨okm_43 O X _ rfl rfl (hb_w12 59 ⟨rfl, rfl⟩) (by decide) (fun h => by cases h), okc_43 O X _ rfl rfl⟩
theorem ok_mJx4a65c_size_8abf5 (O : Nat → Option FieldType) (X : ab_X) : ab_OKm (hb_Gx O X) hb_TB mJx4a65c_size_8abf5 ∧ ab_OKc (hb_Gx O X) hb_TB mJx4a65c_size_8abf5 := ⟨okm_43 O X _ rfl rfl (hb_w11 232 ⟨rfl, rfl⟩) (by decide) (fun h => by cases h), okc_43 O X _ rfl rfl⟩
theorem ok_mJx4a65c_elementData_915e3 (O : Nat → Option FieldType) (X : ab_X) : ab_OKm (hb_Gx O X) hb_TB mJx4a65c_elementData_915e3 ∧ ab_OKc (hb_Gx O X) hb_TB mJx4a65c_elementData_915e3 := ⟨okm_43 O X _ rfl rfl (hb_w12 126 ⟨rfl, rfl⟩) (by decide) (fun h => by cases h), okc_43 O X _ rfl rfl⟩
theorem ok_mJx4a65c_get_915e3 (O : Nat → Option FieldType) (X : ab_X) : ab_OKm (hb_Gx O X) hb_TB mJx4a65c_get_915e3 ∧ ab_OKc (hb_Gx O X) hb_TB mJx4a65c_get_915e3 := ⟨okm_43 O X _ rfl rfl (hb_w12 118 ⟨rfl, rfl⟩) (by decide) (fun h => by cases h), okc_43 O X _ rfl rfl⟩
theorem ok_mJx4a65c_add_72be8 (O : Nat → Option FieldType) (X : ab_X) : ab_OKm (hb_Gx O X) hb_TB mJx4a65c_add_72be8 ∧ ab_OKc (hb_Gx O X) hb_TB mJx4a65c_add_72be8 := ⟨okm_43 O X _ rfl rfl (hb_w12 55 ⟨rfl, rfl⟩) (by decide) (fun h => by cases h), okc_43 O X _ rfl rfl⟩
theorem ok_mJx4a65c_add_9ea2d (O : Nat → Option FieldType) (X : ab_X) : ab_OKm (hb_Gx O X) hb_TB mJx4a65c_add_9ea2d ∧ ab_OKc (hb_Gx O X) hb_TB mJx4a65c_add_9ea2d := ⟨okm_43 O X _ rfl rfl (hb_w12 51 ⟨rfl, rfl⟩) (by decide) (fun h => by cases h), okc_43 O X _ rfl rfl⟩
theorem hb_N43_0 (O : Nat → Option FieldType) (X : ab_X) : ∀ M ∈ [mJx4a65c_init_da8c8, mJx4a65c_grow_92f84, mJx4a65c_grow_d5877, mJx4a65c_size_8abf5, mJx4a65c_elementData_915e3, mJx4a65c_get_915e3, mJx4a65c_add_72be8, mJx4a65c_add_9ea2d], ab_OKm (hb_Gx O X) hb_TB M ∧ ab_OKc (hb_Gx O X) hb_TB M := List.forall_mem_cons.mpr ⟨ok_mJx4a65c_init_da8c8 O X, List.forall_mem_cons.mpr ⟨ok_mJx4a65c_grow_92f84 O X, List.forall_mem_cons.mpr ⟨ok_mJx4a65c_grow_d5877 O X, List.forall_mem_cons.mpr ⟨ok_mJx4a65c_size_8abf5 O X, List.forall_mem_cons.mpr ⟨ok_mJx4a65c_elementData_915e3 O X, List.forall_mem_cons.mpr ⟨ok_mJx4a65c_get_915e3 O X, List.forall_mem_cons.mpr ⟨ok_mJx4a65c_add_72be8 O X, List.forall_mem_cons.mpr ⟨ok_mJx4a65c_add_9ea2d O X, fun _ h => absurd h List.not_mem_nil⟩⟩⟩⟩⟩⟩⟩⟩
theorem hb_N43_ok (O : Nat → Option FieldType) (X : ab_X) : ∀ M ∈ hb_N43, ab_OKm (hb_Gx O X) hb_TB M ∧ ab_OKc (hb_Gx O X) hb_TB M := by
  intro M h
  have h : M ∈ [mJx4a65c_init_da8c8, mJx4a65c_grow_92f84, mJx4a65c_grow_d5877, mJx4a65c_size_8abf5, mJx4a65c_elementData_915e3, mJx4a65c_get_915e3, mJx4a65c_add_72be8, mJx4a65c_add_9ea2d] := h
  exact hb_N43_0 O X M h
theorem okc_44 (O : Nat → Option FieldType) (X : ab_X) (M : ab_MI) (h1 : ab_mo M = 44) (h2 : (ab_my M).cls = RJ7) : ab_OKc (hb_Gx O X) hb_TB M := by
  intro ix sort y na ci h
  rw [h1] at h
  exact hb_T44_ok O X ix sort y na ci h M h1 h2
theorem okm_44 (O : Nat → Option FieldType) (X : ab_X) (M : ab_MI) (h1 : ab_mo M = 44) (h2 : (ab_my M).cls = RJ7) (hc : Cond.code (ab_my M) (ab_mc M) (ab_mL M) (ab_mr M) ∈ hb_TB) (hl : ab_mL M ≤ 21) (hi : ab_mi M = true → (ab_my M).name = "<init>") : ab_OKm (hb_Gx O X) hb_TB M := by
  refine ⟨hc, by rw [h2]; decide +kernel, hl, hi, ?_, ?_, ?_, ?_⟩
  · rw [h1, h2]
    exact hb_F44_ok _
  · rw [h1, h2]
    exact hb_C44_ok
  · rw [h1, h2]
    exact hb_I44_ok
  · rw [h1, h2]
    exact hb_L44_ok
theorem ok_mJ7_fill_d0a16 (O : Nat → Option FieldType) (X : ab_X) : ab_OKm (hb_Gx O X) hb_TB mJ7_fill_d0a16 ∧ ab_OKc (hb_Gx O X) hb_TB mJ7_fill_d0a16 := ⟨okm_44 O X _ rfl rfl (hb_w2 106 ⟨rfl, rfl⟩) (by decide) (fun h => by cases h), okc_44 O X _ rfl rfl⟩
theorem ok_mJ7_fill_53178 (O : Nat → Option FieldType) (X : ab_X) : ab_OKm (hb_Gx O X) hb_TB mJ7_fill_53178 ∧ ab_OKc (hb_Gx O X) hb_TB mJ7_fill_53178 := ⟨okm_44 O X _ rfl rfl (hb_w2 63 ⟨rfl, rfl⟩) (by decide) (fun h => by cases h), okc_44 O X _ rfl rfl⟩
theorem ok_mJ7_copyOf_1904c (O : Nat → Option FieldType) (X : ab_X) : ab_OKm (hb_Gx O X) hb_TB mJ7_copyOf_1904c ∧ ab_OKc (hb_Gx O X) hb_TB mJ7_copyOf_1904c := ⟨okm_44 O X _ rfl rfl (hb_w12 74 ⟨rfl, rfl⟩) (by decide) (fun h => by cases h), okc_44 O X _ rfl rfl⟩
theorem ok_mJ7_copyOf_6403c (O : Nat → Option FieldType) (X : ab_X) : ab_OKm (hb_Gx O X) hb_TB mJ7_copyOf_6403c ∧ ab_OKc (hb_Gx O X) hb_TB mJ7_copyOf_6403c := ⟨okm_44 O X _ rfl rfl (hb_w12 109 ⟨rfl, rfl⟩) (by decide) (fun h => by cases h), okc_44 O X _ rfl rfl⟩
theorem ok_mJ7_copyOf_9075b (O : Nat → Option FieldType) (X : ab_X) : ab_OKm (hb_Gx O X) hb_TB mJ7_copyOf_9075b ∧ ab_OKc (hb_Gx O X) hb_TB mJ7_copyOf_9075b := ⟨okm_44 O X _ rfl rfl (hb_w6 86 ⟨rfl, rfl⟩) (by decide) (fun h => by cases h), okc_44 O X _ rfl rfl⟩
theorem ok_mJ7_copyOf_59c91 (O : Nat → Option FieldType) (X : ab_X) : ab_OKm (hb_Gx O X) hb_TB mJ7_copyOf_59c91 ∧ ab_OKc (hb_Gx O X) hb_TB mJ7_copyOf_59c91 := ⟨okm_44 O X _ rfl rfl (hb_w5 132 ⟨rfl, rfl⟩) (by decide) (fun h => by cases h), okc_44 O X _ rfl rfl⟩
theorem hb_N44_0 (O : Nat → Option FieldType) (X : ab_X) : ∀ M ∈ [mJ7_fill_d0a16, mJ7_fill_53178, mJ7_copyOf_1904c, mJ7_copyOf_6403c, mJ7_copyOf_9075b, mJ7_copyOf_59c91], ab_OKm (hb_Gx O X) hb_TB M ∧ ab_OKc (hb_Gx O X) hb_TB M := List.forall_mem_cons.mpr ⟨ok_mJ7_fill_d0a16 O X, List.forall_mem_cons.mpr ⟨ok_mJ7_fill_53178 O X, List.forall_mem_cons.mpr ⟨ok_mJ7_copyOf_1904c O X, List.forall_mem_cons.mpr ⟨ok_mJ7_copyOf_6403c O X, List.forall_mem_cons.mpr ⟨ok_mJ7_copyOf_9075b O X, List.forall_mem_cons.mpr ⟨ok_mJ7_copyOf_59c91 O X, fun _ h => absurd h List.not_mem_nil⟩⟩⟩⟩⟩⟩
theorem hb_N44_ok (O : Nat → Option FieldType) (X : ab_X) : ∀ M ∈ hb_N44, ab_OKm (hb_Gx O X) hb_TB M ∧ ab_OKc (hb_Gx O X) hb_TB M := by
  intro M h
  have h : M ∈ [mJ7_fill_d0a16, mJ7_fill_53178, mJ7_copyOf_1904c, mJ7_copyOf_6403c, mJ7_copyOf_9075b, mJ7_copyOf_59c91] := h
  exact hb_N44_0 O X M h
theorem okc_47 (O : Nat → Option FieldType) (X : ab_X) (M : ab_MI) (h1 : ab_mo M = 47) (h2 : (ab_my M).cls = RJ15) : ab_OKc (hb_Gx O X) hb_TB M := by
  intro ix sort y na ci h
  rw [h1] at h
  exact hb_T47_ok O X ix sort y na ci h M h1 h2
theorem okm_47 (O : Nat → Option FieldType) (X : ab_X) (M : ab_MI) (h1 : ab_mo M = 47) (h2 : (ab_my M).cls = RJ15) (hc : Cond.code (ab_my M) (ab_mc M) (ab_mL M) (ab_mr M) ∈ hb_TB) (hl : ab_mL M ≤ 21) (hi : ab_mi M = true → (ab_my M).name = "<init>") : ab_OKm (hb_Gx O X) hb_TB M := by
  refine ⟨hc, by rw [h2]; decide +kernel, hl, hi, ?_, ?_, ?_, ?_⟩
  · rw [h1, h2]
    exact hb_F47_ok _
  · rw [h1, h2]
    exact hb_C47_ok
  · rw [h1, h2]
    exact hb_I47_ok
  · rw [h1, h2]
    exact hb_L47_ok
theorem ok_mJ15_checkIndex_7cf53 (O : Nat → Option FieldType) (X : ab_X) : ab_OKm (hb_Gx O X) hb_TB mJ15_checkIndex_7cf53 ∧ ab_OKc (hb_Gx O X) hb_TB mJ15_checkIndex_7cf53 := ⟨okm_47 O X _ rfl rfl (hb_w12 121 ⟨rfl, rfl⟩) (by decide) (fun h => by cases h), okc_47 O X _ rfl rfl⟩
theorem hb_N47_0 (O : Nat → Option FieldType) (X : ab_X) : ∀ M ∈ [mJ15_checkIndex_7cf53], ab_OKm (hb_Gx O X) hb_TB M ∧ ab_OKc (hb_Gx O X) hb_TB M := List.forall_mem_cons.mpr ⟨ok_mJ15_checkIndex_7cf53 O X, fun _ h => absurd h List.not_mem_nil⟩
theorem hb_N47_ok (O : Nat → Option FieldType) (X : ab_X) : ∀ M ∈ hb_N47, ab_OKm (hb_Gx O X) hb_TB M ∧ ab_OKc (hb_Gx O X) hb_TB M := by
  intro M h
  have h : M ∈ [mJ15_checkIndex_7cf53] := h
  exact hb_N47_0 O X M h
theorem okc_50 (O : Nat → Option FieldType) (X : ab_X) (M : ab_MI) (h1 : ab_mo M = 50) (h2 : (ab_my M).cls = RJ8) : ab_OKc (hb_Gx O X) hb_TB M := by
  intro ix sort y na ci h
  rw [h1] at h
  exact hb_T50_ok O X ix sort y na ci h M h1 h2
theorem okm_50 (O : Nat → Option FieldType) (X : ab_X) (M : ab_MI) (h1 : ab_mo M = 50) (h2 : (ab_my M).cls = RJ8) (hc : Cond.code (ab_my M) (ab_mc M) (ab_mL M) (ab_mr M) ∈ hb_TB) (hl : ab_mL M ≤ 21) (hi : ab_mi M = true → (ab_my M).name = "<init>") : ab_OKm (hb_Gx O X) hb_TB M := by
  refine ⟨hc, by rw [h2]; decide +kernel, hl, hi, ?_, ?_, ?_, ?_⟩
  · rw [h1, h2]
    exact hb_F50_ok _
  · rw [h1, h2]
    exact hb_C50_ok
  · rw [h1, h2]
    exact hb_I50_ok
  · rw [h1, h2]
    exact hb_L50_ok
theorem ok_mJ8_newLength_cabcc (O : Nat → Option FieldType) (X : ab_X) : ab_OKm (hb_Gx O X) hb_TB mJ8_newLength_cabcc ∧ ab_OKc (hb_Gx O X) hb_TB mJ8_newLength_cabcc := ⟨okm_50 O X _ rfl rfl (hb_w12 66 ⟨rfl, rfl⟩) (by decide) (fun h => by cases h), okc_50 O X _ rfl rfl⟩
theorem ok_mJ8_hugeLength_7cf53 (O : Nat → Option FieldType) (X : ab_X) : ab_OKm (hb_Gx O X) hb_TB mJ8_hugeLength_7cf53 ∧ ab_OKc (hb_Gx O X) hb_TB mJ8_hugeLength_7cf53 := ⟨okm_50 O X _ rfl rfl (hb_w12 71 ⟨rfl, rfl⟩) (by decide) (fun h => by cases h), okc_50 O X _ rfl rfl⟩
theorem hb_N50_0 (O : Nat → Option FieldType) (X : ab_X) : ∀ M ∈ [mJ8_newLength_cabcc, mJ8_hugeLength_7cf53], ab_OKm (hb_Gx O X) hb_TB M ∧ ab_OKc (hb_Gx O X) hb_TB M := List.forall_mem_cons.mpr ⟨ok_mJ8_newLength_cabcc O X, List.forall_mem_cons.mpr ⟨ok_mJ8_hugeLength_7cf53 O X, fun _ h => absurd h List.not_mem_nil⟩⟩
theorem hb_N50_ok (O : Nat → Option FieldType) (X : ab_X) : ∀ M ∈ hb_N50, ab_OKm (hb_Gx O X) hb_TB M ∧ ab_OKc (hb_Gx O X) hb_TB M := by
  intro M h
  have h : M ∈ [mJ8_newLength_cabcc, mJ8_hugeLength_7cf53] := h
  exact hb_N50_0 O X M h
theorem okc_51 (O : Nat → Option FieldType) (X : ab_X) (M : ab_MI) (h1 : ab_mo M = 51) (h2 : (ab_my M).cls = RJ3) : ab_OKc (hb_Gx O X) hb_TB M := by
  intro ix sort y na ci h
  rw [h1] at h
  exact hb_T51_ok O X ix sort y na ci h M h1 h2
theorem okm_51 (O : Nat → Option FieldType) (X : ab_X) (M : ab_MI) (h1 : ab_mo M = 51) (h2 : (ab_my M).cls = RJ3) (hc : Cond.code (ab_my M) (ab_mc M) (ab_mL M) (ab_mr M) ∈ hb_TB) (hl : ab_mL M ≤ 21) (hi : ab_mi M = true → (ab_my M).name = "<init>") : ab_OKm (hb_Gx O X) hb_TB M := by
  refine ⟨hc, by rw [h2]; decide +kernel, hl, hi, ?_, ?_, ?_, ?_⟩
  · rw [h1, h2]
    exact hb_F51_ok _
  · rw [h1, h2]
    exact hb_C51_ok
  · rw [h1, h2]
    exact hb_I51_ok
  · rw [h1, h2]
    exact hb_L51_ok
theorem ok_mJ3_checkIndex_8e157 (O : Nat → Option FieldType) (X : ab_X) : ab_OKm (hb_Gx O X) hb_TB mJ3_checkIndex_8e157 ∧ ab_OKc (hb_Gx O X) hb_TB mJ3_checkIndex_8e157 := ⟨okm_51 O X _ rfl rfl (hb_w2 10 ⟨rfl, rfl⟩) (by decide) (fun h => by cases h), okc_51 O X _ rfl rfl⟩
theorem ok_mJ3_checkFromToIndex_8c36e (O : Nat → Option FieldType) (X : ab_X) : ab_OKm (hb_Gx O X) hb_TB mJ3_checkFromToIndex_8c36e ∧ ab_OKc (hb_Gx O X) hb_TB mJ3_checkFromToIndex_8c36e := ⟨okm_51 O X _ rfl rfl (hb_w4 233 ⟨rfl, rfl⟩) (by decide) (fun h => by cases h), okc_51 O X _ rfl rfl⟩
theorem hb_N51_0 (O : Nat → Option FieldType) (X : ab_X) : ∀ M ∈ [mJ3_checkIndex_8e157, mJ3_checkFromToIndex_8c36e], ab_OKm (hb_Gx O X) hb_TB M ∧ ab_OKc (hb_Gx O X) hb_TB M := List.forall_mem_cons.mpr ⟨ok_mJ3_checkIndex_8e157 O X, List.forall_mem_cons.mpr ⟨ok_mJ3_checkFromToIndex_8c36e O X, fun _ h => absurd h List.not_mem_nil⟩⟩
theorem hb_N51_ok (O : Nat → Option FieldType) (X : ab_X) : ∀ M ∈ hb_N51, ab_OKm (hb_Gx O X) hb_TB M ∧ ab_OKc (hb_Gx O X) hb_TB M := by
  intro M h
  have h : M ∈ [mJ3_checkIndex_8e157, mJ3_checkFromToIndex_8c36e] := h
  exact hb_N51_0 O X M h
theorem okc_60 (O : Nat → Option FieldType) (X : ab_X) (M : ab_MI) (h1 : ab_mo M = 60) (h2 : (ab_my M).cls = RZR15) : ab_OKc (hb_Gx O X) hb_TB M := by
  intro ix sort y na ci h
  rw [h1] at h
  exact hb_T60_ok O X ix sort y na ci h M h1 h2
theorem okm_60 (O : Nat → Option FieldType) (X : ab_X) (M : ab_MI) (h1 : ab_mo M = 60) (h2 : (ab_my M).cls = RZR15) (hc : Cond.code (ab_my M) (ab_mc M) (ab_mL M) (ab_mr M) ∈ hb_TB) (hl : ab_mL M ≤ 21) (hi : ab_mi M = true → (ab_my M).name = "<init>") : ab_OKm (hb_Gx O X) hb_TB M := by
  refine ⟨hc, by rw [h2]; decide +kernel, hl, hi, ?_, ?_, ?_, ?_⟩
  · rw [h1, h2]
    exact hb_F60_ok _
  · rw [h1, h2]
    exact hb_C60_ok
  · rw [h1, h2]
    exact hb_I60_ok
  · rw [h1, h2]
    exact hb_L60_ok
theorem ok_mZR15_init (O : Nat → Option FieldType) (X : ab_X) : ab_OKm (hb_Gx O X) hb_TB mZR15_init ∧ ab_OKc (hb_Gx O X) hb_TB mZR15_init := ⟨okm_60 O X _ rfl rfl (hb_w9 48 ⟨rfl, rfl⟩) (by decide) (fun _ => rfl), okc_60 O X _ rfl rfl⟩
theorem hb_N60_0 (O : Nat → Option FieldType) (X : ab_X) : ∀ M ∈ [mZR15_init], ab_OKm (hb_Gx O X) hb_TB M ∧ ab_OKc (hb_Gx O X) hb_TB M := List.forall_mem_cons.mpr ⟨ok_mZR15_init O X, fun _ h => absurd h List.not_mem_nil⟩
theorem hb_N60_ok (O : Nat → Option FieldType) (X : ab_X) : ∀ M ∈ hb_N60, ab_OKm (hb_Gx O X) hb_TB M ∧ ab_OKc (hb_Gx O X) hb_TB M := by
  intro M h
  have h : M ∈ [mZR15_init] := h
  exact hb_N60_0 O X M h
theorem okc_61 (O : Nat → Option FieldType) (X : ab_X) (M : ab_MI) (h1 : ab_mo M = 61) (h2 : (ab_my M).cls = RZE15) : ab_OKc (hb_Gx O X) hb_TB M := by
  intro ix sort y na ci h
  rw [h1] at h
  exact hb_T61_ok O X ix sort y na ci h M h1 h2
theorem okm_61 (O : Nat → Option FieldType) (X : ab_X) (M : ab_MI) (h1 : ab_mo M = 61) (h2 : (ab_my M).cls = RZE15) (hc : Cond.code (ab_my M) (ab_mc M) (ab_mL M) (ab_mr M) ∈ hb_TB) (hl : ab_mL M ≤ 21) (hi : ab_mi M = true → (ab_my M).name = "<init>") : ab_OKm (hb_Gx O X) hb_TB M := by
  refine ⟨hc, by rw [h2]; decide +kernel, hl, hi, ?_, ?_, ?_, ?_⟩
  · rw [h1, h2]
    exact hb_F61_ok _
  · rw [h1, h2]
    exact hb_C61_ok
  · rw [h1, h2]
    exact hb_I61_ok
  · rw [h1, h2]
    exact hb_L61_ok
theorem ok_mZE15_init (O : Nat → Option FieldType) (X : ab_X) : ab_OKm (hb_Gx O X) hb_TB mZE15_init ∧ ab_OKc (hb_Gx O X) hb_TB mZE15_init := ⟨okm_61 O X _ rfl rfl (hb_w9 51 ⟨rfl, rfl⟩) (by decide) (fun _ => rfl), okc_61 O X _ rfl rfl⟩
theorem hb_N61_0 (O : Nat → Option FieldType) (X : ab_X) : ∀ M ∈ [mZE15_init], ab_OKm (hb_Gx O X) hb_TB M ∧ ab_OKc (hb_Gx O X) hb_TB M := List.forall_mem_cons.mpr ⟨ok_mZE15_init O X, fun _ h => absurd h List.not_mem_nil⟩
theorem hb_N61_ok (O : Nat → Option FieldType) (X : ab_X) : ∀ M ∈ hb_N61, ab_OKm (hb_Gx O X) hb_TB M ∧ ab_OKc (hb_Gx O X) hb_TB M := by
  intro M h
  have h : M ∈ [mZE15_init] := h
  exact hb_N61_0 O X M h
theorem okc_62 (O : Nat → Option FieldType) (X : ab_X) (M : ab_MI) (h1 : ab_mo M = 62) (h2 : (ab_my M).cls = RZT15) : ab_OKc (hb_Gx O X) hb_TB M := by
  intro ix sort y na ci h
  rw [h1] at h
  exact hb_T62_ok O X ix sort y na ci h M h1 h2
theorem okm_62 (O : Nat → Option FieldType) (X : ab_X) (M : ab_MI) (h1 : ab_mo M = 62) (h2 : (ab_my M).cls = RZT15) (hc : Cond.code (ab_my M) (ab_mc M) (ab_mL M) (ab_mr M) ∈ hb_TB) (hl : ab_mL M ≤ 21) (hi : ab_mi M = true → (ab_my M).name = "<init>") : ab_OKm (hb_Gx O X) hb_TB M := by
  refine ⟨hc, by rw [h2]; decide +kernel, hl, hi, ?_, ?_, ?_, ?_⟩
  · rw [h1, h2]
    exact hb_F62_ok _
  · rw [h1, h2]
    exact hb_C62_ok
  · rw [h1, h2]
    exact hb_I62_ok
  · rw [h1, h2]
    exact hb_L62_ok
theorem ok_mZT15_init (O : Nat → Option FieldType) (X : ab_X) : ab_OKm (hb_Gx O X) hb_TB mZT15_init ∧ ab_OKc (hb_Gx O X) hb_TB mZT15_init := ⟨okm_62 O X _ rfl rfl (hb_w9 54 ⟨rfl, rfl⟩) (by decide) (fun _ => rfl), okc_62 O X _ rfl rfl⟩
theorem hb_N62_0 (O : Nat → Option FieldType) (X : ab_X) : ∀ M ∈ [mZT15_init], ab_OKm (hb_Gx O X) hb_TB M ∧ ab_OKc (hb_Gx O X) hb_TB M := List.forall_mem_cons.mpr ⟨ok_mZT15_init O X, fun _ h => absurd h List.not_mem_nil⟩
theorem hb_N62_ok (O : Nat → Option FieldType) (X : ab_X) : ∀ M ∈ hb_N62, ab_OKm (hb_Gx O X) hb_TB M ∧ ab_OKc (hb_Gx O X) hb_TB M := by
  intro M h
  have h : M ∈ [mZT15_init] := h
  exact hb_N62_0 O X M h
theorem okc_63 (O : Nat → Option FieldType) (X : ab_X) (M : ab_MI) (h1 : ab_mo M = 63) (h2 : (ab_my M).cls = RZR16) : ab_OKc (hb_Gx O X) hb_TB M := by
  intro ix sort y na ci h
  rw [h1] at h
  exact hb_T63_ok O X ix sort y na ci h M h1 h2
theorem okm_63 (O : Nat → Option FieldType) (X : ab_X) (M : ab_MI) (h1 : ab_mo M = 63) (h2 : (ab_my M).cls = RZR16) (hc : Cond.code (ab_my M) (ab_mc M) (ab_mL M) (ab_mr M) ∈ hb_TB) (hl : ab_mL M ≤ 21) (hi : ab_mi M = true → (ab_my M).name = "<init>") : ab_OKm (hb_Gx O X) hb_TB M := by
  refine ⟨hc, by rw [h2]; decide +kernel, hl, hi, ?_, ?_, ?_, ?_⟩
  · rw [h1, h2]
    exact hb_F63_ok _
  · rw [h1, h2]
    exact hb_C63_ok
  · rw [h1, h2]
    exact hb_I63_ok
  · rw [h1, h2]
    exact hb_L63_ok
theorem ok_mZR16_init (O : Nat → Option FieldType) (X : ab_X) : ab_OKm (hb_Gx O X) hb_TB mZR16_init ∧ ab_OKc (hb_Gx O X) hb_TB mZR16_init := ⟨okm_63 O X _ rfl rfl (hb_w9 48 ⟨rfl, rfl⟩) (by decide) (fun _ => rfl), okc_63 O X _ rfl rfl⟩
theorem hb_N63_0 (O : Nat → Option FieldType) (X : ab_X) : ∀ M ∈ [mZR16_init], ab_OKm (hb_Gx O X) hb_TB M ∧ ab_OKc (hb_Gx O X) hb_TB M := List.forall_mem_cons.mpr ⟨ok_mZR16_init O X, fun _ h => absurd h List.not_mem_nil⟩
theorem hb_N63_ok (O : Nat → Option FieldType) (X : ab_X) : ∀ M ∈ hb_N63, ab_OKm (hb_Gx O X) hb_TB M ∧ ab_OKc (hb_Gx O X) hb_TB M := by
  intro M h
  have h : M ∈ [mZR16_init] := h
  exact hb_N63_0 O X M h
theorem okc_64 (O : Nat → Option FieldType) (X : ab_X) (M : ab_MI) (h1 : ab_mo M = 64) (h2 : (ab_my M).cls = RZE16) : ab_OKc (hb_Gx O X) hb_TB M := by
  intro ix sort y na ci h
  rw [h1] at h
  exact hb_T64_ok O X ix sort y na ci h M h1 h2
theorem okm_64 (O : Nat → Option FieldType) (X : ab_X) (M : ab_MI) (h1 : ab_mo M = 64) (h2 : (ab_my M).cls = RZE16) (hc : Cond.code (ab_my M) (ab_mc M) (ab_mL M) (ab_mr M) ∈ hb_TB) (hl : ab_mL M ≤ 21) (hi : ab_mi M = true → (ab_my M).name = "<init>") : ab_OKm (hb_Gx O X) hb_TB M := by
  refine ⟨hc, by rw [h2]; decide +kernel, hl, hi, ?_, ?_, ?_, ?_⟩
  · rw [h1, h2]
    exact hb_F64_ok _
  · rw [h1, h2]
    exact hb_C64_ok
  · rw [h1, h2]
    exact hb_I64_ok
  · rw [h1, h2]
    exact hb_L64_ok
theorem ok_mZE16_init (O : Nat → Option FieldType) (X : ab_X) : ab_OKm (hb_Gx O X) hb_TB mZE16_init ∧ ab_OKc (hb_Gx O X) hb_TB mZE16_init := ⟨okm_64 O X _ rfl rfl (hb_w9 51 ⟨rfl, rfl⟩) (by decide) (fun _ => rfl), okc_64 O X _ rfl rfl⟩
theorem hb_N64_0 (O : Nat → Option FieldType) (X : ab_X) : ∀ M ∈ [mZE16_init], ab_OKm (hb_Gx O X) hb_TB M ∧ ab_OKc (hb_Gx O X) hb_TB M := List.forall_mem_cons.mpr ⟨ok_mZE16_init O X, fun _ h => absurd h List.not_mem_nil⟩
theorem hb_N64_ok (O : Nat → Option FieldType) (X : ab_X) : ∀ M ∈ hb_N64, ab_OKm (hb_Gx O X) hb_TB M ∧ ab_OKc (hb_Gx O X) hb_TB M := by
  intro M h
  have h : M ∈ [mZE16_init] := h
  exact hb_N64_0 O X M h
theorem okc_65 (O : Nat → Option FieldType) (X : ab_X) (M : ab_MI) (h1 : ab_mo M = 65) (h2 : (ab_my M).cls = RZT16) : ab_OKc (hb_Gx O X) hb_TB M := by
  intro ix sort y na ci h
  rw [h1] at h
  exact hb_T65_ok O X ix sort y na ci h M h1 h2
theorem okm_65 (O : Nat → Option FieldType) (X : ab_X) (M : ab_MI) (h1 : ab_mo M = 65) (h2 : (ab_my M).cls = RZT16) (hc : Cond.code (ab_my M) (ab_mc M) (ab_mL M) (ab_mr M) ∈ hb_TB) (hl : ab_mL M ≤ 21) (hi : ab_mi M = true → (ab_my M).name = "<init>") : ab_OKm (hb_Gx O X) hb_TB M := by
  refine ⟨hc, by rw [h2]; decide +kernel, hl, hi, ?_, ?_, ?_, ?_⟩
  · rw [h1, h2]
    exact hb_F65_ok _
  · rw [h1, h2]
    exact hb_C65_ok
  · rw [h1, h2]
    exact hb_I65_ok
  · rw [h1, h2]
    exact hb_L65_ok
theorem ok_mZT16_init (O : Nat → Option FieldType) (X : ab_X) : ab_OKm (hb_Gx O X) hb_TB mZT16_init ∧ ab_OKc (hb_Gx O X) hb_TB mZT16_init := ⟨okm_65 O X _ rfl rfl (hb_w9 54 ⟨rfl, rfl⟩) (by decide) (fun _ => rfl), okc_65 O X _ rfl rfl⟩
theorem hb_N65_0 (O : Nat → Option FieldType) (X : ab_X) : ∀ M ∈ [mZT16_init], ab_OKm (hb_Gx O X) hb_TB M ∧ ab_OKc (hb_Gx O X) hb_TB M := List.forall_mem_cons.mpr ⟨ok_mZT16_init O X, fun _ h => absurd h List.not_mem_nil⟩
theorem hb_N65_ok (O : Nat → Option FieldType) (X : ab_X) : ∀ M ∈ hb_N65, ab_OKm (hb_Gx O X) hb_TB M ∧ ab_OKc (hb_Gx O X) hb_TB M := by
  intro M h
  have h : M ∈ [mZT16_init] := h
  exact hb_N65_0 O X M h
theorem okc_66 (O : Nat → Option FieldType) (X : ab_X) (M : ab_MI) (h1 : ab_mo M = 66) (h2 : (ab_my M).cls = RZR22) : ab_OKc (hb_Gx O X) hb_TB M := by
  intro ix sort y na ci h
  rw [h1] at h
  exact hb_T66_ok O X ix sort y na ci h M h1 h2
theorem okm_66 (O : Nat → Option FieldType) (X : ab_X) (M : ab_MI) (h1 : ab_mo M = 66) (h2 : (ab_my M).cls = RZR22) (hc : Cond.code (ab_my M) (ab_mc M) (ab_mL M) (ab_mr M) ∈ hb_TB) (hl : ab_mL M ≤ 21) (hi : ab_mi M = true → (ab_my M).name = "<init>") : ab_OKm (hb_Gx O X) hb_TB M := by
  refine ⟨hc, by rw [h2]; decide +kernel, hl, hi, ?_, ?_, ?_, ?_⟩
  · rw [h1, h2]
    exact hb_F66_ok _
  · rw [h1, h2]
    exact hb_C66_ok
  · rw [h1, h2]
    exact hb_I66_ok
  · rw [h1, h2]
    exact hb_L66_ok
theorem ok_mZR22_init (O : Nat → Option FieldType) (X : ab_X) : ab_OKm (hb_Gx O X) hb_TB mZR22_init ∧ ab_OKc (hb_Gx O X) hb_TB mZR22_init := ⟨okm_66 O X _ rfl rfl (hb_w9 48 ⟨rfl, rfl⟩) (by decide) (fun _ => rfl), okc_66 O X _ rfl rfl⟩
theorem hb_N66_0 (O : Nat → Option FieldType) (X : ab_X) : ∀ M ∈ [mZR22_init], ab_OKm (hb_Gx O X) hb_TB M ∧ ab_OKc (hb_Gx O X) hb_TB M := List.forall_mem_cons.mpr ⟨ok_mZR22_init O X, fun _ h => absurd h List.not_mem_nil⟩
theorem hb_N66_ok (O : Nat → Option FieldType) (X : ab_X) : ∀ M ∈ hb_N66, ab_OKm (hb_Gx O X) hb_TB M ∧ ab_OKc (hb_Gx O X) hb_TB M := by
  intro M h
  have h : M ∈ [mZR22_init] := h
  exact hb_N66_0 O X M h
theorem okc_67 (O : Nat → Option FieldType) (X : ab_X) (M : ab_MI) (h1 : ab_mo M = 67) (h2 : (ab_my M).cls = RZE22) : ab_OKc (hb_Gx O X) hb_TB M := by
  intro ix sort y na ci h
  rw [h1] at h
  exact hb_T67_ok O X ix sort y na ci h M h1 h2
theorem okm_67 (O : Nat → Option FieldType) (X : ab_X) (M : ab_MI) (h1 : ab_mo M = 67) (h2 : (ab_my M).cls = RZE22) (hc : Cond.code (ab_my M) (ab_mc M) (ab_mL M) (ab_mr M) ∈ hb_TB) (hl : ab_mL M ≤ 21) (hi : ab_mi M = true → (ab_my M).name = "<init>") : ab_OKm (hb_Gx O X) hb_TB M := by
  refine ⟨hc, by rw [h2]; decide +kernel, hl, hi, ?_, ?_, ?_, ?_⟩
  · rw [h1, h2]
    exact hb_F67_ok _
  · rw [h1, h2]
    exact hb_C67_ok
  · rw [h1, h2]
    exact hb_I67_ok
  · rw [h1, h2]
    exact hb_L67_ok
theorem ok_mZE22_init (O : Nat → Option FieldType) (X : ab_X) : ab_OKm (hb_Gx O X) hb_TB mZE22_init ∧ ab_OKc (hb_Gx O X) hb_TB mZE22_init := ⟨okm_67 O X _ rfl rfl (hb_w9 51 ⟨rfl, rfl⟩) (by decide) (fun _ => rfl), okc_67 O X _ rfl rfl⟩
theorem hb_N67_0 (O : Nat → Option FieldType) (X : ab_X) : ∀ M ∈ [mZE22_init], ab_OKm (hb_Gx O X) hb_TB M ∧ ab_OKc (hb_Gx O X) hb_TB M := List.forall_mem_cons.mpr ⟨ok_mZE22_init O X, fun _ h => absurd h List.not_mem_nil⟩
theorem hb_N67_ok (O : Nat → Option FieldType) (X : ab_X) : ∀ M ∈ hb_N67, ab_OKm (hb_Gx O X) hb_TB M ∧ ab_OKc (hb_Gx O X) hb_TB M := by
  intro M h
  have h : M ∈ [mZE22_init] := h
  exact hb_N67_0 O X M h
theorem okc_68 (O : Nat → Option FieldType) (X : ab_X) (M : ab_MI) (h1 : ab_mo M = 68) (h2 : (ab_my M).cls = RZT22) : ab_OKc (hb_Gx O X) hb_TB M := by
  intro ix sort y na ci h
  rw [h1] at h
  exact hb_T68_ok O X ix sort y na ci h M h1 h2
theorem okm_68 (O : Nat → Option FieldType) (X : ab_X) (M : ab_MI) (h1 : ab_mo M = 68) (h2 : (ab_my M).cls = RZT22) (hc : Cond.code (ab_my M) (ab_mc M) (ab_mL M) (ab_mr M) ∈ hb_TB) (hl : ab_mL M ≤ 21) (hi : ab_mi M = true → (ab_my M).name = "<init>") : ab_OKm (hb_Gx O X) hb_TB M := by
  refine ⟨hc, by rw [h2]; decide +kernel, hl, hi, ?_, ?_, ?_, ?_⟩
  · rw [h1, h2]
    exact hb_F68_ok _
  · rw [h1, h2]
    exact hb_C68_ok
  · rw [h1, h2]
    exact hb_I68_ok
  · rw [h1, h2]
    exact hb_L68_ok
theorem ok_mZT22_init (O : Nat → Option FieldType) (X : ab_X) : ab_OKm (hb_Gx O X) hb_TB mZT22_init ∧ ab_OKc (hb_Gx O X) hb_TB mZT22_init := ⟨okm_68 O X _ rfl rfl (hb_w9 54 ⟨rfl, rfl⟩) (by decide) (fun _ => rfl), okc_68 O X _ rfl rfl⟩
theorem hb_N68_0 (O : Nat → Option FieldType) (X : ab_X) : ∀ M ∈ [mZT22_init], ab_OKm (hb_Gx O X) hb_TB M ∧ ab_OKc (hb_Gx O X) hb_TB M := List.forall_mem_cons.mpr ⟨ok_mZT22_init O X, fun _ h => absurd h List.not_mem_nil⟩
theorem hb_N68_ok (O : Nat → Option FieldType) (X : ab_X) : ∀ M ∈ hb_N68, ab_OKm (hb_Gx O X) hb_TB M ∧ ab_OKc (hb_Gx O X) hb_TB M := by
  intro M h
  have h : M ∈ [mZT22_init] := h
  exact hb_N68_0 O X M h
theorem okc_52 (O : Nat → Option FieldType) (X : ab_X) (M : ab_MI) (h1 : ab_mo M = 52) (h2 : (ab_my M).cls = RL) : ab_OKc (hb_Gx O X) hb_TB M := by
  intro ix sort y na ci h
  rw [h1] at h
  exact hb_T52_ok O X ix sort y na ci h M h1 h2
theorem okm_52 (O : Nat → Option FieldType) (X : ab_X) (M : ab_MI) (h1 : ab_mo M = 52) (h2 : (ab_my M).cls = RL) (hc : Cond.code (ab_my M) (ab_mc M) (ab_mL M) (ab_mr M) ∈ hb_TB) (hl : ab_mL M ≤ 21) (hi : ab_mi M = true → (ab_my M).name = "<init>") : ab_OKm (hb_Gx O X) hb_TB M := by
  refine ⟨hc, by rw [h2]; decide +kernel, hl, hi, ?_, ?_, ?_, ?_⟩
  · rw [h1, h2]
    exact hb_F52_ok _
  · rw [h1, h2]
    exact hb_C52_ok
  · rw [h1, h2]
    exact hb_I52_ok
  · rw [h1, h2]
    exact hb_L52_ok
theorem hb_N52_ok (O : Nat → Option FieldType) (X : ab_X) : ∀ M ∈ hb_N52, ab_OKm (hb_Gx O X) hb_TB M ∧ ab_OKc (hb_Gx O X) hb_TB M := fun _ h => absurd h List.not_mem_nil
theorem hb_M_ok (O : Nat → Option FieldType) (X : ab_X) : ∀ (y : Nat) (M : ab_MI), ab_gM (hb_Gx O X) y = some M → ab_OKm (hb_Gx O X) hb_TB M ∧ ab_OKc (hb_Gx O X) hb_TB M := by
  intro y M h
  have h := List.mem_of_getElem? (show (hb_Mc (y / 256))[y % 256]? = some M from h)
  unfold hb_Mc at h
  split at h
  · exact hb_N0_ok O X _ h
  · exact hb_N1_ok O X _ h
  · exact hb_N2_ok O X _ h
  · exact hb_N3_ok O X _ h
  · exact hb_N4_ok O X _ h
  · exact hb_N5_ok O X _ h
  · exact hb_N6_ok O X _ h
  · exact hb_N7_ok O X _ h
  · exact hb_N8_ok O X _ h
  · exact hb_N9_ok O X _ h
  · exact hb_N10_ok O X _ h
  · exact hb_N11_ok O X _ h
  · exact hb_N12_ok O X _ h
  · exact hb_N13_ok O X _ h
  · exact hb_N14_ok O X _ h
  · exact hb_N15_ok O X _ h
  · exact hb_N16_ok O X _ h
  · exact hb_N17_ok O X _ h
  · exact hb_N18_ok O X _ h
  · exact hb_N19_ok O X _ h
  · exact hb_N20_ok O X _ h
  · exact hb_N21_ok O X _ h
  · exact hb_N22_ok O X _ h
  · exact hb_N23_ok O X _ h
  · exact hb_N31_ok O X _ h
  · exact hb_N33_ok O X _ h
  · exact hb_N35_ok O X _ h
  · exact hb_N37_ok O X _ h
  · exact hb_N38_ok O X _ h
  · exact hb_N39_ok O X _ h
  · exact hb_N41_ok O X _ h
  · exact hb_N42_ok O X _ h
  · exact hb_N43_ok O X _ h
  · exact hb_N44_ok O X _ h
  · exact hb_N47_ok O X _ h
  · exact hb_N50_ok O X _ h
  · exact hb_N51_ok O X _ h
  · exact hb_N60_ok O X _ h
  · exact hb_N61_ok O X _ h
  · exact hb_N62_ok O X _ h
  · exact hb_N63_ok O X _ h
  · exact hb_N64_ok O X _ h
  · exact hb_N65_ok O X _ h
  · exact hb_N66_ok O X _ h
  · exact hb_N67_ok O X _ h
  · exact hb_N68_ok O X _ h
  · exact hb_N52_ok O X _ h
  · cases h
theorem hb_arr : ∀ a q, ab_na a = some q → Cond.arrayClass q.2.1 ∈ hb_TB := by
  intro a q h
  cases a <;> first | (cases h; done) | skip
  · cases h
    exact (hb_w1 95 (by decide +kernel))
  · cases h
    exact (hb_w2 217 (by decide +kernel))
  · cases h
    exact (hb_w1 96 (by decide +kernel))
  · cases h
    exact (hb_w1 189 (by decide +kernel))
/-- THE TABLES ARE RIGHT -/
theorem hb_OK (O : Nat → Option FieldType) (X : ab_X) : ab_OK (hb_Gx O X) hb_TB := ⟨hb_good, hb_arr, hb_M_ok O X⟩

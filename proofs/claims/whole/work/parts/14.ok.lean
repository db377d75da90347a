theorem okc_0 (O : Nat → Option FieldType) (X : ab_X) (M : ab_MI) (h1 : ab_mo M = 0) (h2 : (ab_my M).cls = RX0) : ab_OKc (hb_Gx O X) hb_TB M := by
  intro ix sort y na ci h
  rw [h1] at h
  exact hb_T0_ok O X ix sort y na ci h M h1 h2
theorem okm_0 (O : Nat → Option FieldType) (X : ab_X) (M : ab_MI) (h1 : ab_mo M = 0) (h2 : (ab_my M).cls = RX0) (hc : Cond.code (ab_my M) (ab_mc M) (ab_mL M) (ab_mr M) ∈ hb_TB) (hl : ab_mL M ≤ 21) (hi : ab_mi M = true → (ab_my M).name = "<init>") : ab_OKm (hb_Gx O X) hb_TB M := by
  refine ⟨hc, by rw [h2]; decide +kernel, hl, hi, ?_, ?_, ?_, ?_⟩
  · rw [h1, h2]
    exact hb_F0_ok _
  · rw [h1, h2]
    exact hb_C0_ok
  · rw [h1, h2]
    exact hb_I0_ok
  · rw [h1, h2]
    exact hb_L0_ok
theorem ok_mX0_init (O : Nat → Option FieldType) (X : ab_X) : ab_OKm (hb_Gx O X) hb_TB mX0_init ∧ ab_OKc (hb_Gx O X) hb_TB mX0_init := ⟨okm_0 O X _ rfl rfl (hb_w3 214 ⟨rfl, rfl⟩) (by decide) (fun _ => rfl), okc_0 O X _ rfl rfl⟩
theorem ok_mX0_rowSize (O : Nat → Option FieldType) (X : ab_X) : ab_OKm (hb_Gx O X) hb_TB mX0_rowSize ∧ ab_OKc (hb_Gx O X) hb_TB mX0_rowSize := ⟨okm_0 O X _ rfl rfl (hb_w7 219 ⟨rfl, rfl⟩) (by decide) (fun h => by cases h), okc_0 O X _ rfl rfl⟩
theorem ok_mX0_endsWithSeveral (O : Nat → Option FieldType) (X : ab_X) : ab_OKm (hb_Gx O X) hb_TB mX0_endsWithSeveral ∧ ab_OKc (hb_Gx O X) hb_TB mX0_endsWithSeveral := ⟨okm_0 O X _ rfl rfl (hb_w7 232 ⟨rfl, rfl⟩) (by decide) (fun h => by cases h), okc_0 O X _ rfl rfl⟩
theorem ok_mX0_inRow (O : Nat → Option FieldType) (X : ab_X) : ab_OKm (hb_Gx O X) hb_TB mX0_inRow ∧ ab_OKc (hb_Gx O X) hb_TB mX0_inRow := ⟨okm_0 O X _ rfl rfl (hb_w7 227 ⟨rfl, rfl⟩) (by decide) (fun h => by cases h), okc_0 O X _ rfl rfl⟩
theorem ok_mX0_choose (O : Nat → Option FieldType) (X : ab_X) : ab_OKm (hb_Gx O X) hb_TB mX0_choose ∧ ab_OKc (hb_Gx O X) hb_TB mX0_choose := ⟨okm_0 O X _ rfl rfl (hb_w7 164 ⟨rfl, rfl⟩) (by decide) (fun h => by cases h), okc_0 O X _ rfl rfl⟩
theorem ok_mX0_isLaid (O : Nat → Option FieldType) (X : ab_X) : ab_OKm (hb_Gx O X) hb_TB mX0_isLaid ∧ ab_OKc (hb_Gx O X) hb_TB mX0_isLaid := ⟨okm_0 O X _ rfl rfl (hb_w7 198 ⟨rfl, rfl⟩) (by decide) (fun h => by cases h), okc_0 O X _ rfl rfl⟩
theorem ok_mX0_gatherApplying (O : Nat → Option FieldType) (X : ab_X) : ab_OKm (hb_Gx O X) hb_TB mX0_gatherApplying ∧ ab_OKc (hb_Gx O X) hb_TB mX0_gatherApplying := ⟨okm_0 O X _ rfl rfl (hb_w7 180 ⟨rfl, rfl⟩) (by decide) (fun h => by cases h), okc_0 O X _ rfl rfl⟩
theorem ok_mX0_isOn (O : Nat → Option FieldType) (X : ab_X) : ab_OKm (hb_Gx O X) hb_TB mX0_isOn ∧ ab_OKc (hb_Gx O X) hb_TB mX0_isOn := ⟨okm_0 O X _ rfl rfl (hb_w7 184 ⟨rfl, rfl⟩) (by decide) (fun h => by cases h), okc_0 O X _ rfl rfl⟩
theorem ok_mX0_takes (O : Nat → Option FieldType) (X : ab_X) : ab_OKm (hb_Gx O X) hb_TB mX0_takes ∧ ab_OKc (hb_Gx O X) hb_TB mX0_takes := ⟨okm_0 O X _ rfl rfl (hb_w7 189 ⟨rfl, rfl⟩) (by decide) (fun h => by cases h), okc_0 O X _ rfl rfl⟩
theorem ok_mX0_holds (O : Nat → Option FieldType) (X : ab_X) : ab_OKm (hb_Gx O X) hb_TB mX0_holds ∧ ab_OKc (hb_Gx O X) hb_TB mX0_holds := ⟨okm_0 O X _ rfl rfl (hb_w7 193 ⟨rfl, rfl⟩) (by decide) (fun h => by cases h), okc_0 O X _ rfl rfl⟩
theorem ok_mX0_gatherGroup (O : Nat → Option FieldType) (X : ab_X) : ab_OKm (hb_Gx O X) hb_TB mX0_gatherGroup ∧ ab_OKc (hb_Gx O X) hb_TB mX0_gatherGroup := ⟨okm_0 O X _ rfl rfl (hb_w7 202 ⟨rfl, rfl⟩) (by decide) (fun h => by cases h), okc_0 O X _ rfl rfl⟩
theorem ok_mX0_layGroup (O : Nat → Option FieldType) (X : ab_X) : ab_OKm (hb_Gx O X) hb_TB mX0_layGroup ∧ ab_OKc (hb_Gx O X) hb_TB mX0_layGroup := ⟨okm_0 O X _ rfl rfl (hb_w7 206 ⟨rfl, rfl⟩) (by decide) (fun h => by cases h), okc_0 O X _ rfl rfl⟩
theorem ok_mX0_pickNext (O : Nat → Option FieldType) (X : ab_X) : ab_OKm (hb_Gx O X) hb_TB mX0_pickNext ∧ ab_OKc (hb_Gx O X) hb_TB mX0_pickNext := ⟨okm_0 O X _ rfl rfl (hb_w7 211 ⟨rfl, rfl⟩) (by decide) (fun h => by cases h), okc_0 O X _ rfl rfl⟩
theorem hb_N0_0 (O : Nat → Option FieldType) (X : ab_X) : ∀ M ∈ [mX0_init, mX0_rowSize, mX0_endsWithSeveral, mX0_inRow, mX0_choose, mX0_isLaid, mX0_gatherApplying, mX0_isOn, mX0_takes, mX0_holds, mX0_gatherGroup, mX0_layGroup], ab_OKm (hb_Gx O X) hb_TB M ∧ ab_OKc (hb_Gx O X) hb_TB M := List.forall_mem_cons.mpr ⟨ok_mX0_init O X, List.forall_mem_cons.mpr ⟨ok_mX0_rowSize O X, List.forall_mem_cons.mpr ⟨ok_mX0_endsWithSeveral O X, List.forall_mem_cons.mpr ⟨ok_mX0_inRow O X, List.forall_mem_cons.mpr ⟨ok_mX0_choose O X, List.forall_mem_cons.mpr ⟨ok_mX0_isLaid O X, List.forall_mem_cons.mpr ⟨ok_mX0_gatherApplying O X, List.forall_mem_cons.mpr ⟨ok_mX0_isOn O X, List.forall_mem_cons.mpr ⟨ok_mX0_takes O X, List.forall_mem_cons.mpr ⟨ok_mX0_holds O X, List.forall_mem_cons.mpr ⟨ok_mX0_gatherGroup O X, List.forall_mem_cons.mpr ⟨ok_mX0_layGroup O X, fun _ h => absurd h List.not_mem_nil⟩⟩⟩⟩⟩⟩⟩⟩⟩⟩⟩⟩
theorem hb_N0_1 (O : Nat → Option FieldType) (X : ab_X) : ∀ M ∈ [mX0_pickNext], ab_OKm (hb_Gx O X) hb_TB M ∧ ab_OKc (hb_Gx O X) hb_TB M := List.forall_mem_cons.mpr ⟨ok_mX0_pickNext O X, fun _ h => absurd h List.not_mem_nil⟩
theorem hb_N0_ok (O : Nat → Option FieldType) (X : ab_X) : ∀ M ∈ hb_N0, ab_OKm (hb_Gx O X) hb_TB M ∧ ab_OKc (hb_Gx O X) hb_TB M := by
  intro M h
  have h : M ∈ [mX0_init, mX0_rowSize, mX0_endsWithSeveral, mX0_inRow, mX0_choose, mX0_isLaid, mX0_gatherApplying, mX0_isOn, mX0_takes, mX0_holds, mX0_gatherGroup, mX0_layGroup] ++ ([mX0_pickNext]) := h
  rcases List.mem_append.mp h with h | h
  · exact hb_N0_0 O X M h
  exact hb_N0_1 O X M h
theorem okc_1 (O : Nat → Option FieldType) (X : ab_X) (M : ab_MI) (h1 : ab_mo M = 1) (h2 : (ab_my M).cls = RX1) : ab_OKc (hb_Gx O X) hb_TB M := by
  intro ix sort y na ci h
  rw [h1] at h
  exact hb_T1_ok O X ix sort y na ci h M h1 h2
theorem okm_1 (O : Nat → Option FieldType) (X : ab_X) (M : ab_MI) (h1 : ab_mo M = 1) (h2 : (ab_my M).cls = RX1) (hc : Cond.code (ab_my M) (ab_mc M) (ab_mL M) (ab_mr M) ∈ hb_TB) (hl : ab_mL M ≤ 21) (hi : ab_mi M = true → (ab_my M).name = "<init>") : ab_OKm (hb_Gx O X) hb_TB M := by
  refine ⟨hc, by rw [h2]; decide +kernel, hl, hi, ?_, ?_, ?_, ?_⟩
  · rw [h1, h2]
    exact hb_F1_ok _
  · rw [h1, h2]
    exact hb_C1_ok
  · rw [h1, h2]
    exact hb_I1_ok
  · rw [h1, h2]
    exact hb_L1_ok
theorem ok_mX1_init (O : Nat → Option FieldType) (X : ab_X) : ab_OKm (hb_Gx O X) hb_TB mX1_init ∧ ab_OKc (hb_Gx O X) hb_TB mX1_init := ⟨okm_1 O X _ rfl rfl (hb_w1 194 ⟨rfl, rfl⟩) (by decide) (fun _ => rfl), okc_1 O X _ rfl rfl⟩
theorem ok_mX1_open (O : Nat → Option FieldType) (X : ab_X) : ab_OKm (hb_Gx O X) hb_TB mX1_open ∧ ab_OKc (hb_Gx O X) hb_TB mX1_open := ⟨okm_1 O X _ rfl rfl (hb_w5 128 ⟨rfl, rfl⟩) (by decide) (fun h => by cases h), okc_1 O X _ rfl rfl⟩
theorem ok_mX1_emit (O : Nat → Option FieldType) (X : ab_X) : ab_OKm (hb_Gx O X) hb_TB mX1_emit ∧ ab_OKc (hb_Gx O X) hb_TB mX1_emit := ⟨okm_1 O X _ rfl rfl (hb_w5 161 ⟨rfl, rfl⟩) (by decide) (fun h => by cases h), okc_1 O X _ rfl rfl⟩
theorem ok_mX1_aim (O : Nat → Option FieldType) (X : ab_X) : ab_OKm (hb_Gx O X) hb_TB mX1_aim ∧ ab_OKc (hb_Gx O X) hb_TB mX1_aim := ⟨okm_1 O X _ rfl rfl (hb_w5 169 ⟨rfl, rfl⟩) (by decide) (fun h => by cases h), okc_1 O X _ rfl rfl⟩
theorem hb_N1_0 (O : Nat → Option FieldType) (X : ab_X) : ∀ M ∈ [mX1_init, mX1_open, mX1_emit, mX1_aim], ab_OKm (hb_Gx O X) hb_TB M ∧ ab_OKc (hb_Gx O X) hb_TB M := List.forall_mem_cons.mpr ⟨ok_mX1_init O X, List.forall_mem_cons.mpr ⟨ok_mX1_open O X, List.forall_mem_cons.mpr ⟨ok_mX1_emit O X, List.forall_mem_cons.mpr ⟨ok_mX1_aim O X, fun _ h => absurd h List.not_mem_nil⟩⟩⟩⟩
theorem hb_N1_ok (O : Nat → Option FieldType) (X : ab_X) : ∀ M ∈ hb_N1, ab_OKm (hb_Gx O X) hb_TB M ∧ ab_OKc (hb_Gx O X) hb_TB M := by
  intro M h
  have h : M ∈ [mX1_init, mX1_open, mX1_emit, mX1_aim] := h
  exact hb_N1_0 O X M h
theorem okc_2 (O : Nat → Option FieldType) (X : ab_X) (M : ab_MI) (h1 : ab_mo M = 2) (h2 : (ab_my M).cls = RX2) : ab_OKc (hb_Gx O X) hb_TB M := by
  intro ix sort y na ci h
  rw [h1] at h
  exact hb_T2_ok O X ix sort y na ci h M h1 h2
theorem okm_2 (O : Nat → Option FieldType) (X : ab_X) (M : ab_MI) (h1 : ab_mo M = 2) (h2 : (ab_my M).cls = RX2) (hc : Cond.code (ab_my M) (ab_mc M) (ab_mL M) (ab_mr M) ∈ hb_TB) (hl : ab_mL M ≤ 21) (hi : ab_mi M = true → (ab_my M).name = "<init>") : ab_OKm (hb_Gx O X) hb_TB M := by
  refine ⟨hc, by rw [h2]; decide +kernel, hl, hi, ?_, ?_, ?_, ?_⟩
  · rw [h1, h2]
    exact hb_F2_ok _
  · rw [h1, h2]
    exact hb_C2_ok
  · rw [h1, h2]
    exact hb_I2_ok
  · rw [h1, h2]
    exact hb_L2_ok
theorem ok_mX2_init (O : Nat → Option FieldType) (X : ab_X) : ab_OKm (hb_Gx O X) hb_TB mX2_init ∧ ab_OKc (hb_Gx O X) hb_TB mX2_init := ⟨okm_2 O X _ rfl rfl (hb_w1 64 ⟨rfl, rfl⟩) (by decide) (fun _ => rfl), okc_2 O X _ rfl rfl⟩
theorem ok_mX2_isBelow (O : Nat → Option FieldType) (X : ab_X) : ab_OKm (hb_Gx O X) hb_TB mX2_isBelow ∧ ab_OKc (hb_Gx O X) hb_TB mX2_isBelow := ⟨okm_2 O X _ rfl rfl (hb_w2 118 ⟨rfl, rfl⟩) (by decide) (fun h => by cases h), okc_2 O X _ rfl rfl⟩
theorem ok_mX2_inRow (O : Nat → Option FieldType) (X : ab_X) : ab_OKm (hb_Gx O X) hb_TB mX2_inRow ∧ ab_OKc (hb_Gx O X) hb_TB mX2_inRow := ⟨okm_2 O X _ rfl rfl (hb_w2 91 ⟨rfl, rfl⟩) (by decide) (fun h => by cases h), okc_2 O X _ rfl rfl⟩
theorem ok_mX2_spotInRow (O : Nat → Option FieldType) (X : ab_X) : ab_OKm (hb_Gx O X) hb_TB mX2_spotInRow ∧ ab_OKc (hb_Gx O X) hb_TB mX2_spotInRow := ⟨okm_2 O X _ rfl rfl (hb_w6 236 ⟨rfl, rfl⟩) (by decide) (fun h => by cases h), okc_2 O X _ rfl rfl⟩
theorem ok_mX2_isParent (O : Nat → Option FieldType) (X : ab_X) : ab_OKm (hb_Gx O X) hb_TB mX2_isParent ∧ ab_OKc (hb_Gx O X) hb_TB mX2_isParent := ⟨okm_2 O X _ rfl rfl (hb_w5 59 ⟨rfl, rfl⟩) (by decide) (fun h => by cases h), okc_2 O X _ rfl rfl⟩
theorem ok_mX2_addParent (O : Nat → Option FieldType) (X : ab_X) : ab_OKm (hb_Gx O X) hb_TB mX2_addParent ∧ ab_OKc (hb_Gx O X) hb_TB mX2_addParent := ⟨okm_2 O X _ rfl rfl (hb_w2 99 ⟨rfl, rfl⟩) (by decide) (fun h => by cases h), okc_2 O X _ rfl rfl⟩
theorem ok_mX2_make (O : Nat → Option FieldType) (X : ab_X) : ab_OKm (hb_Gx O X) hb_TB mX2_make ∧ ab_OKc (hb_Gx O X) hb_TB mX2_make := ⟨okm_2 O X _ rfl rfl (hb_w2 50 ⟨rfl, rfl⟩) (by decide) (fun h => by cases h), okc_2 O X _ rfl rfl⟩
theorem ok_mX2_putInRow (O : Nat → Option FieldType) (X : ab_X) : ab_OKm (hb_Gx O X) hb_TB mX2_putInRow ∧ ab_OKc (hb_Gx O X) hb_TB mX2_putInRow := ⟨okm_2 O X _ rfl rfl (hb_w2 67 ⟨rfl, rfl⟩) (by decide) (fun h => by cases h), okc_2 O X _ rfl rfl⟩
theorem ok_mX2_merge (O : Nat → Option FieldType) (X : ab_X) : ab_OKm (hb_Gx O X) hb_TB mX2_merge ∧ ab_OKc (hb_Gx O X) hb_TB mX2_merge := ⟨okm_2 O X _ rfl rfl (hb_w2 60 ⟨rfl, rfl⟩) (by decide) (fun h => by cases h), okc_2 O X _ rfl rfl⟩
theorem ok_mX2_listLength (O : Nat → Option FieldType) (X : ab_X) : ab_OKm (hb_Gx O X) hb_TB mX2_listLength ∧ ab_OKc (hb_Gx O X) hb_TB mX2_listLength := ⟨okm_2 O X _ rfl rfl (hb_w2 75 ⟨rfl, rfl⟩) (by decide) (fun h => by cases h), okc_2 O X _ rfl rfl⟩
theorem ok_mX2_inList (O : Nat → Option FieldType) (X : ab_X) : ab_OKm (hb_Gx O X) hb_TB mX2_inList ∧ ab_OKc (hb_Gx O X) hb_TB mX2_inList := ⟨okm_2 O X _ rfl rfl (hb_w2 79 ⟨rfl, rfl⟩) (by decide) (fun h => by cases h), okc_2 O X _ rfl rfl⟩
theorem ok_mX2_firstFreeHead (O : Nat → Option FieldType) (X : ab_X) : ab_OKm (hb_Gx O X) hb_TB mX2_firstFreeHead ∧ ab_OKc (hb_Gx O X) hb_TB mX2_firstFreeHead := ⟨okm_2 O X _ rfl rfl (hb_w2 71 ⟨rfl, rfl⟩) (by decide) (fun h => by cases h), okc_2 O X _ rfl rfl⟩
theorem ok_mX2_isBehindAHead (O : Nat → Option FieldType) (X : ab_X) : ab_OKm (hb_Gx O X) hb_TB mX2_isBehindAHead ∧ ab_OKc (hb_Gx O X) hb_TB mX2_isBehindAHead := ⟨okm_2 O X _ rfl rfl (hb_w2 83 ⟨rfl, rfl⟩) (by decide) (fun h => by cases h), okc_2 O X _ rfl rfl⟩
theorem ok_mX2_joinByFirst (O : Nat → Option FieldType) (X : ab_X) : ab_OKm (hb_Gx O X) hb_TB mX2_joinByFirst ∧ ab_OKc (hb_Gx O X) hb_TB mX2_joinByFirst := ⟨okm_2 O X _ rfl rfl (hb_w2 87 ⟨rfl, rfl⟩) (by decide) (fun h => by cases h), okc_2 O X _ rfl rfl⟩
theorem ok_mX2_joinByLast (O : Nat → Option FieldType) (X : ab_X) : ab_OKm (hb_Gx O X) hb_TB mX2_joinByLast ∧ ab_OKc (hb_Gx O X) hb_TB mX2_joinByLast := ⟨okm_2 O X _ rfl rfl (hb_w2 95 ⟨rfl, rfl⟩) (by decide) (fun h => by cases h), okc_2 O X _ rfl rfl⟩
theorem hb_N2_0 (O : Nat → Option FieldType) (X : ab_X) : ∀ M ∈ [mX2_init, mX2_isBelow, mX2_inRow, mX2_spotInRow, mX2_isParent, mX2_addParent, mX2_make, mX2_putInRow, mX2_merge, mX2_listLength, mX2_inList, mX2_firstFreeHead], ab_OKm (hb_Gx O X) hb_TB M ∧ ab_OKc (hb_Gx O X) hb_TB M := List.forall_mem_cons.mpr ⟨ok_mX2_init O X, List.forall_mem_cons.mpr ⟨ok_mX2_isBelow O X, List.forall_mem_cons.mpr ⟨ok_mX2_inRow O X, List.forall_mem_cons.mpr ⟨ok_mX2_spotInRow O X, List.forall_mem_cons.mpr ⟨ok_mX2_isParent O X, List.forall_mem_cons.mpr ⟨ok_mX2_addParent O X, List.forall_mem_cons.mpr ⟨ok_mX2_make O X, List.forall_mem_cons.mpr ⟨ok_mX2_putInRow O X, List.forall_mem_cons.mpr ⟨ok_mX2_merge O X, List.forall_mem_cons.mpr ⟨ok_mX2_listLength O X, List.forall_mem_cons.mpr ⟨ok_mX2_inList O X, List.forall_mem_cons.mpr ⟨ok_mX2_firstFreeHead O X, fun _ h => absurd h List.not_mem_nil⟩⟩⟩⟩⟩⟩⟩⟩⟩⟩⟩⟩
theorem hb_N2_1 (O : Nat → Option FieldType) (X : ab_X) : ∀ M ∈ [mX2_isBehindAHead, mX2_joinByFirst, mX2_joinByLast], ab_OKm (hb_Gx O X) hb_TB M ∧ ab_OKc (hb_Gx O X) hb_TB M := List.forall_mem_cons.mpr ⟨ok_mX2_isBehindAHead O X, List.forall_mem_cons.mpr ⟨ok_mX2_joinByFirst O X, List.forall_mem_cons.mpr ⟨ok_mX2_joinByLast O X, fun _ h => absurd h List.not_mem_nil⟩⟩⟩
theorem hb_N2_ok (O : Nat → Option FieldType) (X : ab_X) : ∀ M ∈ hb_N2, ab_OKm (hb_Gx O X) hb_TB M ∧ ab_OKc (hb_Gx O X) hb_TB M := by
  intro M h
  have h : M ∈ [mX2_init, mX2_isBelow, mX2_inRow, mX2_spotInRow, mX2_isParent, mX2_addParent, mX2_make, mX2_putInRow, mX2_merge, mX2_listLength, mX2_inList, mX2_firstFreeHead] ++ ([mX2_isBehindAHead, mX2_joinByFirst, mX2_joinByLast]) := h
  rcases List.mem_append.mp h with h | h
  · exact hb_N2_0 O X M h
  exact hb_N2_1 O X M h
theorem okc_3 (O : Nat → Option FieldType) (X : ab_X) (M : ab_MI) (h1 : ab_mo M = 3) (h2 : (ab_my M).cls = RX3) : ab_OKc (hb_Gx O X) hb_TB M := by
  intro ix sort y na ci h
  rw [h1] at h
  exact hb_T3_ok O X ix sort y na ci h M h1 h2
theorem okm_3 (O : Nat → Option FieldType) (X : ab_X) (M : ab_MI) (h1 : ab_mo M = 3) (h2 : (ab_my M).cls = RX3) (hc : Cond.code (ab_my M) (ab_mc M) (ab_mL M) (ab_mr M) ∈ hb_TB) (hl : ab_mL M ≤ 21) (hi : ab_mi M = true → (ab_my M).name = "<init>") : ab_OKm (hb_Gx O X) hb_TB M := by
  refine ⟨hc, by rw [h2]; decide +kernel, hl, hi, ?_, ?_, ?_, ?_⟩
  · rw [h1, h2]
    exact hb_F3_ok _
  · rw [h1, h2]
    exact hb_C3_ok
  · rw [h1, h2]
    exact hb_I3_ok
  · rw [h1, h2]
    exact hb_L3_ok
theorem ok_mX3_init (O : Nat → Option FieldType) (X : ab_X) : ab_OKm (hb_Gx O X) hb_TB mX3_init ∧ ab_OKc (hb_Gx O X) hb_TB mX3_init := ⟨okm_3 O X _ rfl rfl (hb_w3 120 ⟨rfl, rfl⟩) (by decide) (fun _ => rfl), okc_3 O X _ rfl rfl⟩
theorem ok_mX3_countLists (O : Nat → Option FieldType) (X : ab_X) : ab_OKm (hb_Gx O X) hb_TB mX3_countLists ∧ ab_OKc (hb_Gx O X) hb_TB mX3_countLists := ⟨okm_3 O X _ rfl rfl (hb_w7 20 ⟨rfl, rfl⟩) (by decide) (fun h => by cases h), okc_3 O X _ rfl rfl⟩
theorem ok_mX3_countCells (O : Nat → Option FieldType) (X : ab_X) : ab_OKm (hb_Gx O X) hb_TB mX3_countCells ∧ ab_OKc (hb_Gx O X) hb_TB mX3_countCells := ⟨okm_3 O X _ rfl rfl (hb_w7 65 ⟨rfl, rfl⟩) (by decide) (fun h => by cases h), okc_3 O X _ rfl rfl⟩
theorem ok_mX3_countPressed (O : Nat → Option FieldType) (X : ab_X) : ab_OKm (hb_Gx O X) hb_TB mX3_countPressed ∧ ab_OKc (hb_Gx O X) hb_TB mX3_countPressed := ⟨okm_3 O X _ rfl rfl (hb_w7 69 ⟨rfl, rfl⟩) (by decide) (fun h => by cases h), okc_3 O X _ rfl rfl⟩
theorem ok_mX3_countNodes (O : Nat → Option FieldType) (X : ab_X) : ab_OKm (hb_Gx O X) hb_TB mX3_countNodes ∧ ab_OKc (hb_Gx O X) hb_TB mX3_countNodes := ⟨okm_3 O X _ rfl rfl (hb_w7 73 ⟨rfl, rfl⟩) (by decide) (fun h => by cases h), okc_3 O X _ rfl rfl⟩
theorem ok_mX3_looksFor (O : Nat → Option FieldType) (X : ab_X) : ab_OKm (hb_Gx O X) hb_TB mX3_looksFor ∧ ab_OKc (hb_Gx O X) hb_TB mX3_looksFor := ⟨okm_3 O X _ rfl rfl (hb_w7 171 ⟨rfl, rfl⟩) (by decide) (fun h => by cases h), okc_3 O X _ rfl rfl⟩
theorem ok_mX3_looksInTree (O : Nat → Option FieldType) (X : ab_X) : ab_OKm (hb_Gx O X) hb_TB mX3_looksInTree ∧ ab_OKc (hb_Gx O X) hb_TB mX3_looksInTree := ⟨okm_3 O X _ rfl rfl (hb_w7 176 ⟨rfl, rfl⟩) (by decide) (fun h => by cases h), okc_3 O X _ rfl rfl⟩
theorem ok_mX3_matters (O : Nat → Option FieldType) (X : ab_X) : ab_OKm (hb_Gx O X) hb_TB mX3_matters ∧ ab_OKc (hb_Gx O X) hb_TB mX3_matters := ⟨okm_3 O X _ rfl rfl (hb_w7 47 ⟨rfl, rfl⟩) (by decide) (fun h => by cases h), okc_3 O X _ rfl rfl⟩
theorem ok_mX3_plan (O : Nat → Option FieldType) (X : ab_X) : ab_OKm (hb_Gx O X) hb_TB mX3_plan ∧ ab_OKc (hb_Gx O X) hb_TB mX3_plan := ⟨okm_3 O X _ rfl rfl (hb_w7 24 ⟨rfl, rfl⟩) (by decide) (fun h => by cases h), okc_3 O X _ rfl rfl⟩
theorem ok_mX3_isOrderOf (O : Nat → Option FieldType) (X : ab_X) : ab_OKm (hb_Gx O X) hb_TB mX3_isOrderOf ∧ ab_OKc (hb_Gx O X) hb_TB mX3_isOrderOf := ⟨okm_3 O X _ rfl rfl (hb_w7 35 ⟨rfl, rfl⟩) (by decide) (fun h => by cases h), okc_3 O X _ rfl rfl⟩
theorem ok_mX3_findLive (O : Nat → Option FieldType) (X : ab_X) : ab_OKm (hb_Gx O X) hb_TB mX3_findLive ∧ ab_OKc (hb_Gx O X) hb_TB mX3_findLive := ⟨okm_3 O X _ rfl rfl (hb_w7 28 ⟨rfl, rfl⟩) (by decide) (fun h => by cases h), okc_3 O X _ rfl rfl⟩
theorem ok_mX3_countSets (O : Nat → Option FieldType) (X : ab_X) : ab_OKm (hb_Gx O X) hb_TB mX3_countSets ∧ ab_OKc (hb_Gx O X) hb_TB mX3_countSets := ⟨okm_3 O X _ rfl rfl (hb_w7 39 ⟨rfl, rfl⟩) (by decide) (fun h => by cases h), okc_3 O X _ rfl rfl⟩
theorem ok_mX3_emptySet (O : Nat → Option FieldType) (X : ab_X) : ab_OKm (hb_Gx O X) hb_TB mX3_emptySet ∧ ab_OKc (hb_Gx O X) hb_TB mX3_emptySet := ⟨okm_3 O X _ rfl rfl (hb_w7 43 ⟨rfl, rfl⟩) (by decide) (fun h => by cases h), okc_3 O X _ rfl rfl⟩
theorem ok_mX3_addToSet (O : Nat → Option FieldType) (X : ab_X) : ab_OKm (hb_Gx O X) hb_TB mX3_addToSet ∧ ab_OKc (hb_Gx O X) hb_TB mX3_addToSet := ⟨okm_3 O X _ rfl rfl (hb_w7 61 ⟨rfl, rfl⟩) (by decide) (fun h => by cases h), okc_3 O X _ rfl rfl⟩
theorem ok_mX3_spotFor (O : Nat → Option FieldType) (X : ab_X) : ab_OKm (hb_Gx O X) hb_TB mX3_spotFor ∧ ab_OKc (hb_Gx O X) hb_TB mX3_spotFor := ⟨okm_3 O X _ rfl rfl (hb_w7 55 ⟨rfl, rfl⟩) (by decide) (fun h => by cases h), okc_3 O X _ rfl rfl⟩
theorem ok_mX3_makeRoomInSet (O : Nat → Option FieldType) (X : ab_X) : ab_OKm (hb_Gx O X) hb_TB mX3_makeRoomInSet ∧ ab_OKc (hb_Gx O X) hb_TB mX3_makeRoomInSet := ⟨okm_3 O X _ rfl rfl (hb_w7 51 ⟨rfl, rfl⟩) (by decide) (fun h => by cases h), okc_3 O X _ rfl rfl⟩
theorem hb_N3_0 (O : Nat → Option FieldType) (X : ab_X) : ∀ M ∈ [mX3_init, mX3_countLists, mX3_countCells, mX3_countPressed, mX3_countNodes, mX3_looksFor, mX3_looksInTree, mX3_matters, mX3_plan, mX3_isOrderOf, mX3_findLive, mX3_countSets], ab_OKm (hb_Gx O X) hb_TB M ∧ ab_OKc (hb_Gx O X) hb_TB M := List.forall_mem_cons.mpr ⟨ok_mX3_init O X, List.forall_mem_cons.mpr ⟨ok_mX3_countLists O X, List.forall_mem_cons.mpr ⟨ok_mX3_countCells O X, List.forall_mem_cons.mpr ⟨ok_mX3_countPressed O X, List.forall_mem_cons.mpr ⟨ok_mX3_countNodes O X, List.forall_mem_cons.mpr ⟨ok_mX3_looksFor O X, List.forall_mem_cons.mpr ⟨ok_mX3_looksInTree O X, List.forall_mem_cons.mpr ⟨ok_mX3_matters O X, List.forall_mem_cons.mpr ⟨ok_mX3_plan O X, List.forall_mem_cons.mpr ⟨ok_mX3_isOrderOf O X, List.forall_mem_cons.mpr ⟨ok_mX3_findLive O X, List.forall_mem_cons.mpr ⟨ok_mX3_countSets O X, fun _ h => absurd h List.not_mem_nil⟩⟩⟩⟩⟩⟩⟩⟩⟩⟩⟩⟩
theorem hb_N3_1 (O : Nat → Option FieldType) (X : ab_X) : ∀ M ∈ [mX3_emptySet, mX3_addToSet, mX3_spotFor, mX3_makeRoomInSet], ab_OKm (hb_Gx O X) hb_TB M ∧ ab_OKc (hb_Gx O X) hb_TB M := List.forall_mem_cons.mpr ⟨ok_mX3_emptySet O X, List.forall_mem_cons.mpr ⟨ok_mX3_addToSet O X, List.forall_mem_cons.mpr ⟨ok_mX3_spotFor O X, List.forall_mem_cons.mpr ⟨ok_mX3_makeRoomInSet O X, fun _ h => absurd h List.not_mem_nil⟩⟩⟩⟩
theorem hb_N3_ok (O : Nat → Option FieldType) (X : ab_X) : ∀ M ∈ hb_N3, ab_OKm (hb_Gx O X) hb_TB M ∧ ab_OKc (hb_Gx O X) hb_TB M := by
  intro M h
  have h : M ∈ [mX3_init, mX3_countLists, mX3_countCells, mX3_countPressed, mX3_countNodes, mX3_looksFor, mX3_looksInTree, mX3_matters, mX3_plan, mX3_isOrderOf, mX3_findLive, mX3_countSets] ++ ([mX3_emptySet, mX3_addToSet, mX3_spotFor, mX3_makeRoomInSet]) := h
  rcases List.mem_append.mp h with h | h
  · exact hb_N3_0 O X M h
  exact hb_N3_1 O X M h
theorem okc_4 (O : Nat → Option FieldType) (X : ab_X) (M : ab_MI) (h1 : ab_mo M = 4) (h2 : (ab_my M).cls = RX4) : ab_OKc (hb_Gx O X) hb_TB M := by
  intro ix sort y na ci h
  rw [h1] at h
  exact hb_T4_ok O X ix sort y na ci h M h1 h2
theorem okm_4 (O : Nat → Option FieldType) (X : ab_X) (M : ab_MI) (h1 : ab_mo M = 4) (h2 : (ab_my M).cls = RX4) (hc : Cond.code (ab_my M) (ab_mc M) (ab_mL M) (ab_mr M) ∈ hb_TB) (hl : ab_mL M ≤ 21) (hi : ab_mi M = true → (ab_my M).name = "<init>") : ab_OKm (hb_Gx O X) hb_TB M := by
  refine ⟨hc, by rw [h2]; decide +kernel, hl, hi, ?_, ?_, ?_, ?_⟩
  · rw [h1, h2]
    exact hb_F4_ok _
  · rw [h1, h2]
    exact hb_C4_ok
  · rw [h1, h2]
    exact hb_I4_ok
  · rw [h1, h2]
    exact hb_L4_ok
theorem ok_mX4_init (O : Nat → Option FieldType) (X : ab_X) : ab_OKm (hb_Gx O X) hb_TB mX4_init ∧ ab_OKc (hb_Gx O X) hb_TB mX4_init := ⟨okm_4 O X _ rfl rfl (hb_w4 33 ⟨rfl, rfl⟩) (by decide) (fun _ => rfl), okc_4 O X _ rfl rfl⟩
theorem ok_mX4_kindOf (O : Nat → Option FieldType) (X : ab_X) : ab_OKm (hb_Gx O X) hb_TB mX4_kindOf ∧ ab_OKc (hb_Gx O X) hb_TB mX4_kindOf := ⟨okm_4 O X _ rfl rfl (hb_w7 167 ⟨rfl, rfl⟩) (by decide) (fun h => by cases h), okc_4 O X _ rfl rfl⟩
theorem ok_mX4_valueOf (O : Nat → Option FieldType) (X : ab_X) : ab_OKm (hb_Gx O X) hb_TB mX4_valueOf ∧ ab_OKc (hb_Gx O X) hb_TB mX4_valueOf := ⟨okm_4 O X _ rfl rfl (hb_w8 1 ⟨rfl, rfl⟩) (by decide) (fun h => by cases h), okc_4 O X _ rfl rfl⟩
theorem ok_mX4_perform (O : Nat → Option FieldType) (X : ab_X) : ab_OKm (hb_Gx O X) hb_TB mX4_perform ∧ ab_OKc (hb_Gx O X) hb_TB mX4_perform := ⟨okm_4 O X _ rfl rfl (hb_w7 143 ⟨rfl, rfl⟩) (by decide) (fun h => by cases h), okc_4 O X _ rfl rfl⟩
theorem ok_mX4_beginRun (O : Nat → Option FieldType) (X : ab_X) : ab_OKm (hb_Gx O X) hb_TB mX4_beginRun ∧ ab_OKc (hb_Gx O X) hb_TB mX4_beginRun := ⟨okm_4 O X _ rfl rfl (hb_w7 147 ⟨rfl, rfl⟩) (by decide) (fun h => by cases h), okc_4 O X _ rfl rfl⟩
theorem ok_mX4_finish (O : Nat → Option FieldType) (X : ab_X) : ab_OKm (hb_Gx O X) hb_TB mX4_finish ∧ ab_OKc (hb_Gx O X) hb_TB mX4_finish := ⟨okm_4 O X _ rfl rfl (hb_w7 152 ⟨rfl, rfl⟩) (by decide) (fun h => by cases h), okc_4 O X _ rfl rfl⟩
theorem ok_mX4_push (O : Nat → Option FieldType) (X : ab_X) : ab_OKm (hb_Gx O X) hb_TB mX4_push ∧ ab_OKc (hb_Gx O X) hb_TB mX4_push := ⟨okm_4 O X _ rfl rfl (hb_w8 19 ⟨rfl, rfl⟩) (by decide) (fun h => by cases h), okc_4 O X _ rfl rfl⟩
theorem ok_mX4_pop (O : Nat → Option FieldType) (X : ab_X) : ab_OKm (hb_Gx O X) hb_TB mX4_pop ∧ ab_OKc (hb_Gx O X) hb_TB mX4_pop := ⟨okm_4 O X _ rfl rfl (hb_w7 160 ⟨rfl, rfl⟩) (by decide) (fun h => by cases h), okc_4 O X _ rfl rfl⟩
theorem ok_mX4_takeGiven (O : Nat → Option FieldType) (X : ab_X) : ab_OKm (hb_Gx O X) hb_TB mX4_takeGiven ∧ ab_OKc (hb_Gx O X) hb_TB mX4_takeGiven := ⟨okm_4 O X _ rfl rfl (hb_w7 156 ⟨rfl, rfl⟩) (by decide) (fun h => by cases h), okc_4 O X _ rfl rfl⟩
theorem ok_mX4_obey (O : Nat → Option FieldType) (X : ab_X) : ab_OKm (hb_Gx O X) hb_TB mX4_obey ∧ ab_OKc (hb_Gx O X) hb_TB mX4_obey := ⟨okm_4 O X _ rfl rfl (hb_w8 41 ⟨rfl, rfl⟩) (by decide) (fun h => by cases h), okc_4 O X _ rfl rfl⟩
theorem ok_mX4_without (O : Nat → Option FieldType) (X : ab_X) : ab_OKm (hb_Gx O X) hb_TB mX4_without ∧ ab_OKc (hb_Gx O X) hb_TB mX4_without := ⟨okm_4 O X _ rfl rfl (hb_w8 44 ⟨rfl, rfl⟩) (by decide) (fun h => by cases h), okc_4 O X _ rfl rfl⟩
theorem ok_mX4_reckon (O : Nat → Option FieldType) (X : ab_X) : ab_OKm (hb_Gx O X) hb_TB mX4_reckon ∧ ab_OKc (hb_Gx O X) hb_TB mX4_reckon := ⟨okm_4 O X _ rfl rfl (hb_w8 61 ⟨rfl, rfl⟩) (by decide) (fun h => by cases h), okc_4 O X _ rfl rfl⟩
theorem ok_mX4_joinTwo (O : Nat → Option FieldType) (X : ab_X) : ab_OKm (hb_Gx O X) hb_TB mX4_joinTwo ∧ ab_OKc (hb_Gx O X) hb_TB mX4_joinTwo := ⟨okm_4 O X _ rfl rfl (hb_w8 66 ⟨rfl, rfl⟩) (by decide) (fun h => by cases h), okc_4 O X _ rfl rfl⟩
theorem ok_mX4_showTop (O : Nat → Option FieldType) (X : ab_X) : ab_OKm (hb_Gx O X) hb_TB mX4_showTop ∧ ab_OKc (hb_Gx O X) hb_TB mX4_showTop := ⟨okm_4 O X _ rfl rfl (hb_w8 57 ⟨rfl, rfl⟩) (by decide) (fun h => by cases h), okc_4 O X _ rfl rfl⟩
theorem ok_mX4_beginTry (O : Nat → Option FieldType) (X : ab_X) : ab_OKm (hb_Gx O X) hb_TB mX4_beginTry ∧ ab_OKc (hb_Gx O X) hb_TB mX4_beginTry := ⟨okm_4 O X _ rfl rfl (hb_w8 49 ⟨rfl, rfl⟩) (by decide) (fun h => by cases h), okc_4 O X _ rfl rfl⟩
theorem ok_mX4_endTry (O : Nat → Option FieldType) (X : ab_X) : ab_OKm (hb_Gx O X) hb_TB mX4_endTry ∧ ab_OKc (hb_Gx O X) hb_TB mX4_endTry := ⟨okm_4 O X _ rfl rfl (hb_w8 53 ⟨rfl, rfl⟩) (by decide) (fun h => by cases h), okc_4 O X _ rfl rfl⟩
theorem ok_mX4_failWith (O : Nat → Option FieldType) (X : ab_X) : ab_OKm (hb_Gx O X) hb_TB mX4_failWith ∧ ab_OKc (hb_Gx O X) hb_TB mX4_failWith := ⟨okm_4 O X _ rfl rfl (hb_w8 37 ⟨rfl, rfl⟩) (by decide) (fun h => by cases h), okc_4 O X _ rfl rfl⟩
theorem ok_mX4_inFrame (O : Nat → Option FieldType) (X : ab_X) : ab_OKm (hb_Gx O X) hb_TB mX4_inFrame ∧ ab_OKc (hb_Gx O X) hb_TB mX4_inFrame := ⟨okm_4 O X _ rfl rfl (hb_w8 10 ⟨rfl, rfl⟩) (by decide) (fun h => by cases h), okc_4 O X _ rfl rfl⟩
theorem ok_mX4_beginCall (O : Nat → Option FieldType) (X : ab_X) : ab_OKm (hb_Gx O X) hb_TB mX4_beginCall ∧ ab_OKc (hb_Gx O X) hb_TB mX4_beginCall := ⟨okm_4 O X _ rfl rfl (hb_w7 215 ⟨rfl, rfl⟩) (by decide) (fun h => by cases h), okc_4 O X _ rfl rfl⟩
theorem ok_mX4_beginMethod (O : Nat → Option FieldType) (X : ab_X) : ab_OKm (hb_Gx O X) hb_TB mX4_beginMethod ∧ ab_OKc (hb_Gx O X) hb_TB mX4_beginMethod := ⟨okm_4 O X _ rfl rfl (hb_w7 223 ⟨rfl, rfl⟩) (by decide) (fun h => by cases h), okc_4 O X _ rfl rfl⟩
theorem ok_mX4_goToNext (O : Nat → Option FieldType) (X : ab_X) : ab_OKm (hb_Gx O X) hb_TB mX4_goToNext ∧ ab_OKc (hb_Gx O X) hb_TB mX4_goToNext := ⟨okm_4 O X _ rfl rfl (hb_w8 23 ⟨rfl, rfl⟩) (by decide) (fun h => by cases h), okc_4 O X _ rfl rfl⟩
theorem ok_mX4_beginInside (O : Nat → Option FieldType) (X : ab_X) : ab_OKm (hb_Gx O X) hb_TB mX4_beginInside ∧ ab_OKc (hb_Gx O X) hb_TB mX4_beginInside := ⟨okm_4 O X _ rfl rfl (hb_w7 236 ⟨rfl, rfl⟩) (by decide) (fun h => by cases h), okc_4 O X _ rfl rfl⟩
theorem ok_mX4_goOnInside (O : Nat → Option FieldType) (X : ab_X) : ab_OKm (hb_Gx O X) hb_TB mX4_goOnInside ∧ ab_OKc (hb_Gx O X) hb_TB mX4_goOnInside := ⟨okm_4 O X _ rfl rfl (hb_w8 6 ⟨rfl, rfl⟩) (by decide) (fun h => by cases h), okc_4 O X _ rfl rfl⟩
theorem ok_mX4_plainTurns (O : Nat → Option FieldType) (X : ab_X) : ab_OKm (hb_Gx O X) hb_TB mX4_plainTurns ∧ ab_OKc (hb_Gx O X) hb_TB mX4_plainTurns := ⟨okm_4 O X _ rfl rfl (hb_w8 14 ⟨rfl, rfl⟩) (by decide) (fun h => by cases h), okc_4 O X _ rfl rfl⟩
theorem ok_mX4_endMethod (O : Nat → Option FieldType) (X : ab_X) : ab_OKm (hb_Gx O X) hb_TB mX4_endMethod ∧ ab_OKc (hb_Gx O X) hb_TB mX4_endMethod := ⟨okm_4 O X _ rfl rfl (hb_w8 27 ⟨rfl, rfl⟩) (by decide) (fun h => by cases h), okc_4 O X _ rfl rfl⟩
theorem ok_mX4_joinValue (O : Nat → Option FieldType) (X : ab_X) : ab_OKm (hb_Gx O X) hb_TB mX4_joinValue ∧ ab_OKc (hb_Gx O X) hb_TB mX4_joinValue := ⟨okm_4 O X _ rfl rfl (hb_w8 31 ⟨rfl, rfl⟩) (by decide) (fun h => by cases h), okc_4 O X _ rfl rfl⟩
theorem hb_N4_0 (O : Nat → Option FieldType) (X : ab_X) : ∀ M ∈ [mX4_init, mX4_kindOf, mX4_valueOf, mX4_perform, mX4_beginRun, mX4_finish, mX4_push, mX4_pop, mX4_takeGiven, mX4_obey, mX4_without, mX4_reckon], ab_OKm (hb_Gx O X) hb_TB M ∧ ab_OKc (hb_Gx O X) hb_TB M := List.forall_mem_cons.mpr ⟨ok_mX4_init O X, List.forall_mem_cons.mpr ⟨ok_mX4_kindOf O X, List.forall_mem_cons.mpr ⟨ok_mX4_valueOf O X, List.forall_mem_cons.mpr ⟨ok_mX4_perform O X, List.forall_mem_cons.mpr ⟨ok_mX4_beginRun O X, List.forall_mem_cons.mpr ⟨ok_mX4_finish O X, List.forall_mem_cons.mpr ⟨ok_mX4_push O X, List.forall_mem_cons.mpr ⟨ok_mX4_pop O X, List.forall_mem_cons.mpr ⟨ok_mX4_takeGiven O X, List.forall_mem_cons.mpr ⟨ok_mX4_obey O X, List.forall_mem_cons.mpr ⟨ok_mX4_without O X, List.forall_mem_cons.mpr ⟨ok_mX4_reckon O X, fun _ h => absurd h List.not_mem_nil⟩⟩⟩⟩⟩⟩⟩⟩⟩⟩⟩⟩
theorem hb_N4_1 (O : Nat → Option FieldType) (X : ab_X) : ∀ M ∈ [mX4_joinTwo, mX4_showTop, mX4_beginTry, mX4_endTry, mX4_failWith, mX4_inFrame, mX4_beginCall, mX4_beginMethod, mX4_goToNext, mX4_beginInside, mX4_goOnInside, mX4_plainTurns], ab_OKm (hb_Gx O X) hb_TB M ∧ ab_OKc (hb_Gx O X) hb_TB M := List.forall_mem_cons.mpr ⟨ok_mX4_joinTwo O X, List.forall_mem_cons.mpr ⟨ok_mX4_showTop O X, List.forall_mem_cons.mpr ⟨ok_mX4_beginTry O X, List.forall_mem_cons.mpr ⟨ok_mX4_endTry O X, List.forall_mem_cons.mpr ⟨ok_mX4_failWith O X, List.forall_mem_cons.mpr ⟨ok_mX4_inFrame O X, List.forall_mem_cons.mpr ⟨ok_mX4_beginCall O X, List.forall_mem_cons.mpr ⟨ok_mX4_beginMethod O X, List.forall_mem_cons.mpr ⟨ok_mX4_goToNext O X, List.forall_mem_cons.mpr ⟨ok_mX4_beginInside O X, List.forall_mem_cons.mpr ⟨ok_mX4_goOnInside O X, List.forall_mem_cons.mpr ⟨ok_mX4_plainTurns O X, fun _ h => absurd h List.not_mem_nil⟩⟩⟩⟩⟩⟩⟩⟩⟩⟩⟩⟩
theorem hb_N4_2 (O : Nat → Option FieldType) (X : ab_X) : ∀ M ∈ [mX4_endMethod, mX4_joinValue], ab_OKm (hb_Gx O X) hb_TB M ∧ ab_OKc (hb_Gx O X) hb_TB M := List.forall_mem_cons.mpr ⟨ok_mX4_endMethod O X, List.forall_mem_cons.mpr ⟨ok_mX4_joinValue O X, fun _ h => absurd h List.not_mem_nil⟩⟩
theorem hb_N4_ok (O : Nat → Option FieldType) (X : ab_X) : ∀ M ∈ hb_N4, ab_OKm (hb_Gx O X) hb_TB M ∧ ab_OKc (hb_Gx O X) hb_TB M := by
  intro M h
  have h : M ∈ [mX4_init, mX4_kindOf, mX4_valueOf, mX4_perform, mX4_beginRun, mX4_finish, mX4_push, mX4_pop, mX4_takeGiven, mX4_obey, mX4_without, mX4_reckon] ++ ([mX4_joinTwo, mX4_showTop, mX4_beginTry, mX4_endTry, mX4_failWith, mX4_inFrame, mX4_beginCall, mX4_beginMethod, mX4_goToNext, mX4_beginInside, mX4_goOnInside, mX4_plainTurns] ++ ([mX4_endMethod, mX4_joinValue])) := h
  rcases List.mem_append.mp h with h | h
  · exact hb_N4_0 O X M h
  rcases List.mem_append.mp h with h | h
  · exact hb_N4_1 O X M h
  exact hb_N4_2 O X M h
theorem okc_5 (O : Nat → Option FieldType) (X : ab_X) (M : ab_MI) (h1 : ab_mo M = 5) (h2 : (ab_my M).cls = RX5) : ab_OKc (hb_Gx O X) hb_TB M := by
  intro ix sort y na ci h
  rw [h1] at h
  exact hb_T5_ok O X ix sort y na ci h M h1 h2
theorem okm_5 (O : Nat → Option FieldType) (X : ab_X) (M : ab_MI) (h1 : ab_mo M = 5) (h2 : (ab_my M).cls = RX5) (hc : Cond.code (ab_my M) (ab_mc M) (ab_mL M) (ab_mr M) ∈ hb_TB) (hl : ab_mL M ≤ 21) (hi : ab_mi M = true → (ab_my M).name = "<init>") : ab_OKm (hb_Gx O X) hb_TB M := by
  refine ⟨hc, by rw [h2]; decide +kernel, hl, hi, ?_, ?_, ?_, ?_⟩
  · rw [h1, h2]
    exact hb_F5_ok _
  · rw [h1, h2]
    exact hb_C5_ok
  · rw [h1, h2]
    exact hb_I5_ok
  · rw [h1, h2]
    exact hb_L5_ok
theorem ok_mX5_init (O : Nat → Option FieldType) (X : ab_X) : ab_OKm (hb_Gx O X) hb_TB mX5_init ∧ ab_OKc (hb_Gx O X) hb_TB mX5_init := ⟨okm_5 O X _ rfl rfl (hb_w1 101 ⟨rfl, rfl⟩) (by decide) (fun _ => rfl), okc_5 O X _ rfl rfl⟩
theorem ok_mX5_isThere (O : Nat → Option FieldType) (X : ab_X) : ab_OKm (hb_Gx O X) hb_TB mX5_isThere ∧ ab_OKc (hb_Gx O X) hb_TB mX5_isThere := ⟨okm_5 O X _ rfl rfl (hb_w2 110 ⟨rfl, rfl⟩) (by decide) (fun h => by cases h), okc_5 O X _ rfl rfl⟩
theorem ok_mX5_open (O : Nat → Option FieldType) (X : ab_X) : ab_OKm (hb_Gx O X) hb_TB mX5_open ∧ ab_OKc (hb_Gx O X) hb_TB mX5_open := ⟨okm_5 O X _ rfl rfl (hb_w5 83 ⟨rfl, rfl⟩) (by decide) (fun h => by cases h), okc_5 O X _ rfl rfl⟩
theorem ok_mX5_addTest (O : Nat → Option FieldType) (X : ab_X) : ab_OKm (hb_Gx O X) hb_TB mX5_addTest ∧ ab_OKc (hb_Gx O X) hb_TB mX5_addTest := ⟨okm_5 O X _ rfl rfl (hb_w5 116 ⟨rfl, rfl⟩) (by decide) (fun h => by cases h), okc_5 O X _ rfl rfl⟩
theorem ok_mX5_asked (O : Nat → Option FieldType) (X : ab_X) : ab_OKm (hb_Gx O X) hb_TB mX5_asked ∧ ab_OKc (hb_Gx O X) hb_TB mX5_asked := ⟨okm_5 O X _ rfl rfl (hb_w6 186 ⟨rfl, rfl⟩) (by decide) (fun h => by cases h), okc_5 O X _ rfl rfl⟩
theorem ok_mX5_sameKinds (O : Nat → Option FieldType) (X : ab_X) : ab_OKm (hb_Gx O X) hb_TB mX5_sameKinds ∧ ab_OKc (hb_Gx O X) hb_TB mX5_sameKinds := ⟨okm_5 O X _ rfl rfl (hb_w5 213 ⟨rfl, rfl⟩) (by decide) (fun h => by cases h), okc_5 O X _ rfl rfl⟩
theorem ok_mX5_sameEquals (O : Nat → Option FieldType) (X : ab_X) : ab_OKm (hb_Gx O X) hb_TB mX5_sameEquals ∧ ab_OKc (hb_Gx O X) hb_TB mX5_sameEquals := ⟨okm_5 O X _ rfl rfl (hb_w5 217 ⟨rfl, rfl⟩) (by decide) (fun h => by cases h), okc_5 O X _ rfl rfl⟩
theorem ok_mX5_hasTwin (O : Nat → Option FieldType) (X : ab_X) : ab_OKm (hb_Gx O X) hb_TB mX5_hasTwin ∧ ab_OKc (hb_Gx O X) hb_TB mX5_hasTwin := ⟨okm_5 O X _ rfl rfl (hb_w5 209 ⟨rfl, rfl⟩) (by decide) (fun h => by cases h), okc_5 O X _ rfl rfl⟩
theorem hb_N5_0 (O : Nat → Option FieldType) (X : ab_X) : ∀ M ∈ [mX5_init, mX5_isThere, mX5_open, mX5_addTest, mX5_asked, mX5_sameKinds, mX5_sameEquals, mX5_hasTwin], ab_OKm (hb_Gx O X) hb_TB M ∧ ab_OKc (hb_Gx O X) hb_TB M := List.forall_mem_cons.mpr ⟨ok_mX5_init O X, List.forall_mem_cons.mpr ⟨ok_mX5_isThere O X, List.forall_mem_cons.mpr ⟨ok_mX5_open O X, List.forall_mem_cons.mpr ⟨ok_mX5_addTest O X, List.forall_mem_cons.mpr ⟨ok_mX5_asked O X, List.forall_mem_cons.mpr ⟨ok_mX5_sameKinds O X, List.forall_mem_cons.mpr ⟨ok_mX5_sameEquals O X, List.forall_mem_cons.mpr ⟨ok_mX5_hasTwin O X, fun _ h => absurd h List.not_mem_nil⟩⟩⟩⟩⟩⟩⟩⟩
theorem hb_N5_ok (O : Nat → Option FieldType) (X : ab_X) : ∀ M ∈ hb_N5, ab_OKm (hb_Gx O X) hb_TB M ∧ ab_OKc (hb_Gx O X) hb_TB M := by
  intro M h
  have h : M ∈ [mX5_init, mX5_isThere, mX5_open, mX5_addTest, mX5_asked, mX5_sameKinds, mX5_sameEquals, mX5_hasTwin] := h
  exact hb_N5_0 O X M h
theorem okc_6 (O : Nat → Option FieldType) (X : ab_X) (M : ab_MI) (h1 : ab_mo M = 6) (h2 : (ab_my M).cls = RX6) : ab_OKc (hb_Gx O X) hb_TB M := by
  intro ix sort y na ci h
  rw [h1] at h
  exact hb_T6_ok O X ix sort y na ci h M h1 h2
theorem okm_6 (O : Nat → Option FieldType) (X : ab_X) (M : ab_MI) (h1 : ab_mo M = 6) (h2 : (ab_my M).cls = RX6) (hc : Cond.code (ab_my M) (ab_mc M) (ab_mL M) (ab_mr M) ∈ hb_TB) (hl : ab_mL M ≤ 21) (hi : ab_mi M = true → (ab_my M).name = "<init>") : ab_OKm (hb_Gx O X) hb_TB M := by
  refine ⟨hc, by rw [h2]; decide +kernel, hl, hi, ?_, ?_, ?_, ?_⟩
  · rw [h1, h2]
    exact hb_F6_ok _
  · rw [h1, h2]
    exact hb_C6_ok
  · rw [h1, h2]
    exact hb_I6_ok
  · rw [h1, h2]
    exact hb_L6_ok
theorem ok_mX6_init (O : Nat → Option FieldType) (X : ab_X) : ab_OKm (hb_Gx O X) hb_TB mX6_init ∧ ab_OKc (hb_Gx O X) hb_TB mX6_init := ⟨okm_6 O X _ rfl rfl (hb_w3 56 ⟨rfl, rfl⟩) (by decide) (fun _ => rfl), okc_6 O X _ rfl rfl⟩
theorem ok_mX6_forgetAll (O : Nat → Option FieldType) (X : ab_X) : ab_OKm (hb_Gx O X) hb_TB mX6_forgetAll ∧ ab_OKc (hb_Gx O X) hb_TB mX6_forgetAll := ⟨okm_6 O X _ rfl rfl (hb_w6 6 ⟨rfl, rfl⟩) (by decide) (fun h => by cases h), okc_6 O X _ rfl rfl⟩
theorem ok_mX6_compare (O : Nat → Option FieldType) (X : ab_X) : ab_OKm (hb_Gx O X) hb_TB mX6_compare ∧ ab_OKc (hb_Gx O X) hb_TB mX6_compare := ⟨okm_6 O X _ rfl rfl (hb_w6 177 ⟨rfl, rfl⟩) (by decide) (fun h => by cases h), okc_6 O X _ rfl rfl⟩
theorem ok_mX6_whoAsksMore (O : Nat → Option FieldType) (X : ab_X) : ab_OKm (hb_Gx O X) hb_TB mX6_whoAsksMore ∧ ab_OKc (hb_Gx O X) hb_TB mX6_whoAsksMore := ⟨okm_6 O X _ rfl rfl (hb_w6 182 ⟨rfl, rfl⟩) (by decide) (fun h => by cases h), okc_6 O X _ rfl rfl⟩
theorem ok_mX6_makeRoomForAll (O : Nat → Option FieldType) (X : ab_X) : ab_OKm (hb_Gx O X) hb_TB mX6_makeRoomForAll ∧ ab_OKc (hb_Gx O X) hb_TB mX6_makeRoomForAll := ⟨okm_6 O X _ rfl rfl (hb_w6 190 ⟨rfl, rfl⟩) (by decide) (fun h => by cases h), okc_6 O X _ rfl rfl⟩
theorem ok_mX6_isTests (O : Nat → Option FieldType) (X : ab_X) : ab_OKm (hb_Gx O X) hb_TB mX6_isTests ∧ ab_OKc (hb_Gx O X) hb_TB mX6_isTests := ⟨okm_6 O X _ rfl rfl (hb_w6 194 ⟨rfl, rfl⟩) (by decide) (fun h => by cases h), okc_6 O X _ rfl rfl⟩
theorem hb_N6_0 (O : Nat → Option FieldType) (X : ab_X) : ∀ M ∈ [mX6_init, mX6_forgetAll, mX6_compare, mX6_whoAsksMore, mX6_makeRoomForAll, mX6_isTests], ab_OKm (hb_Gx O X) hb_TB M ∧ ab_OKc (hb_Gx O X) hb_TB M := List.forall_mem_cons.mpr ⟨ok_mX6_init O X, List.forall_mem_cons.mpr ⟨ok_mX6_forgetAll O X, List.forall_mem_cons.mpr ⟨ok_mX6_compare O X, List.forall_mem_cons.mpr ⟨ok_mX6_whoAsksMore O X, List.forall_mem_cons.mpr ⟨ok_mX6_makeRoomForAll O X, List.forall_mem_cons.mpr ⟨ok_mX6_isTests O X, fun _ h => absurd h List.not_mem_nil⟩⟩⟩⟩⟩⟩
theorem hb_N6_ok (O : Nat → Option FieldType) (X : ab_X) : ∀ M ∈ hb_N6, ab_OKm (hb_Gx O X) hb_TB M ∧ ab_OKc (hb_Gx O X) hb_TB M := by
  intro M h
  have h : M ∈ [mX6_init, mX6_forgetAll, mX6_compare, mX6_whoAsksMore, mX6_makeRoomForAll, mX6_isTests] := h
  exact hb_N6_0 O X M h
theorem okc_7 (O : Nat → Option FieldType) (X : ab_X) (M : ab_MI) (h1 : ab_mo M = 7) (h2 : (ab_my M).cls = RX7) : ab_OKc (hb_Gx O X) hb_TB M := by
  intro ix sort y na ci h
  rw [h1] at h
  exact hb_T7_ok O X ix sort y na ci h M h1 h2
theorem okm_7 (O : Nat → Option FieldType) (X : ab_X) (M : ab_MI) (h1 : ab_mo M = 7) (h2 : (ab_my M).cls = RX7) (hc : Cond.code (ab_my M) (ab_mc M) (ab_mL M) (ab_mr M) ∈ hb_TB) (hl : ab_mL M ≤ 21) (hi : ab_mi M = true → (ab_my M).name = "<init>") : ab_OKm (hb_Gx O X) hb_TB M := by
  refine ⟨hc, by rw [h2]; decide +kernel, hl, hi, ?_, ?_, ?_, ?_⟩
  · rw [h1, h2]
    exact hb_F7_ok _
  · rw [h1, h2]
    exact hb_C7_ok
  · rw [h1, h2]
    exact hb_I7_ok
  · rw [h1, h2]
    exact hb_L7_ok
theorem ok_mX7_init (O : Nat → Option FieldType) (X : ab_X) : ab_OKm (hb_Gx O X) hb_TB mX7_init ∧ ab_OKc (hb_Gx O X) hb_TB mX7_init := ⟨okm_7 O X _ rfl rfl (hb_w2 222 ⟨rfl, rfl⟩) (by decide) (fun _ => rfl), okc_7 O X _ rfl rfl⟩
theorem ok_mX7_readText (O : Nat → Option FieldType) (X : ab_X) : ab_OKm (hb_Gx O X) hb_TB mX7_readText ∧ ab_OKc (hb_Gx O X) hb_TB mX7_readText := ⟨okm_7 O X _ rfl rfl (hb_w4 152 ⟨rfl, rfl⟩) (by decide) (fun h => by cases h), okc_7 O X _ rfl rfl⟩
theorem ok_mX7_readProgram (O : Nat → Option FieldType) (X : ab_X) : ab_OKm (hb_Gx O X) hb_TB mX7_readProgram ∧ ab_OKc (hb_Gx O X) hb_TB mX7_readProgram := ⟨okm_7 O X _ rfl rfl (hb_w5 234 ⟨rfl, rfl⟩) (by decide) (fun h => by cases h), okc_7 O X _ rfl rfl⟩
theorem ok_mX7_begin (O : Nat → Option FieldType) (X : ab_X) : ab_OKm (hb_Gx O X) hb_TB mX7_begin ∧ ab_OKc (hb_Gx O X) hb_TB mX7_begin := ⟨okm_7 O X _ rfl rfl (hb_w5 14 ⟨rfl, rfl⟩) (by decide) (fun h => by cases h), okc_7 O X _ rfl rfl⟩
theorem ok_mX7_isClean (O : Nat → Option FieldType) (X : ab_X) : ab_OKm (hb_Gx O X) hb_TB mX7_isClean ∧ ab_OKc (hb_Gx O X) hb_TB mX7_isClean := ⟨okm_7 O X _ rfl rfl (hb_w5 64 ⟨rfl, rfl⟩) (by decide) (fun h => by cases h), okc_7 O X _ rfl rfl⟩
theorem ok_mX7_verdict (O : Nat → Option FieldType) (X : ab_X) : ab_OKm (hb_Gx O X) hb_TB mX7_verdict ∧ ab_OKc (hb_Gx O X) hb_TB mX7_verdict := ⟨okm_7 O X _ rfl rfl (hb_w5 226 ⟨rfl, rfl⟩) (by decide) (fun h => by cases h), okc_7 O X _ rfl rfl⟩
theorem ok_mX7_sign (O : Nat → Option FieldType) (X : ab_X) : ab_OKm (hb_Gx O X) hb_TB mX7_sign ∧ ab_OKc (hb_Gx O X) hb_TB mX7_sign := ⟨okm_7 O X _ rfl rfl (hb_w5 25 ⟨rfl, rfl⟩) (by decide) (fun h => by cases h), okc_7 O X _ rfl rfl⟩
theorem ok_mX7_take (O : Nat → Option FieldType) (X : ab_X) : ab_OKm (hb_Gx O X) hb_TB mX7_take ∧ ab_OKc (hb_Gx O X) hb_TB mX7_take := ⟨okm_7 O X _ rfl rfl (hb_w5 33 ⟨rfl, rfl⟩) (by decide) (fun h => by cases h), okc_7 O X _ rfl rfl⟩
theorem ok_mX7_breakRule (O : Nat → Option FieldType) (X : ab_X) : ab_OKm (hb_Gx O X) hb_TB mX7_breakRule ∧ ab_OKc (hb_Gx O X) hb_TB mX7_breakRule := ⟨okm_7 O X _ rfl rfl (hb_w5 49 ⟨rfl, rfl⟩) (by decide) (fun h => by cases h), okc_7 O X _ rfl rfl⟩
theorem ok_mX7_takeNewName (O : Nat → Option FieldType) (X : ab_X) : ab_OKm (hb_Gx O X) hb_TB mX7_takeNewName ∧ ab_OKc (hb_Gx O X) hb_TB mX7_takeNewName := ⟨okm_7 O X _ rfl rfl (hb_w5 37 ⟨rfl, rfl⟩) (by decide) (fun h => by cases h), okc_7 O X _ rfl rfl⟩
theorem ok_mX7_takeKnownName (O : Nat → Option FieldType) (X : ab_X) : ab_OKm (hb_Gx O X) hb_TB mX7_takeKnownName ∧ ab_OKc (hb_Gx O X) hb_TB mX7_takeKnownName := ⟨okm_7 O X _ rfl rfl (hb_w5 54 ⟨rfl, rfl⟩) (by decide) (fun h => by cases h), okc_7 O X _ rfl rfl⟩
theorem ok_mX7_readKind (O : Nat → Option FieldType) (X : ab_X) : ab_OKm (hb_Gx O X) hb_TB mX7_readKind ∧ ab_OKc (hb_Gx O X) hb_TB mX7_readKind := ⟨okm_7 O X _ rfl rfl (hb_w5 29 ⟨rfl, rfl⟩) (by decide) (fun h => by cases h), okc_7 O X _ rfl rfl⟩
theorem ok_mX7_readCall (O : Nat → Option FieldType) (X : ab_X) : ab_OKm (hb_Gx O X) hb_TB mX7_readCall ∧ ab_OKc (hb_Gx O X) hb_TB mX7_readCall := ⟨okm_7 O X _ rfl rfl (hb_w5 70 ⟨rfl, rfl⟩) (by decide) (fun h => by cases h), okc_7 O X _ rfl rfl⟩
theorem ok_mX7_readLayer (O : Nat → Option FieldType) (X : ab_X) : ab_OKm (hb_Gx O X) hb_TB mX7_readLayer ∧ ab_OKc (hb_Gx O X) hb_TB mX7_readLayer := ⟨okm_7 O X _ rfl rfl (hb_w5 75 ⟨rfl, rfl⟩) (by decide) (fun h => by cases h), okc_7 O X _ rfl rfl⟩
theorem ok_mX7_readMethod (O : Nat → Option FieldType) (X : ab_X) : ab_OKm (hb_Gx O X) hb_TB mX7_readMethod ∧ ab_OKc (hb_Gx O X) hb_TB mX7_readMethod := ⟨okm_7 O X _ rfl rfl (hb_w5 79 ⟨rfl, rfl⟩) (by decide) (fun h => by cases h), okc_7 O X _ rfl rfl⟩
theorem ok_mX7_readSpecs (O : Nat → Option FieldType) (X : ab_X) : ab_OKm (hb_Gx O X) hb_TB mX7_readSpecs ∧ ab_OKc (hb_Gx O X) hb_TB mX7_readSpecs := ⟨okm_7 O X _ rfl rfl (hb_w5 88 ⟨rfl, rfl⟩) (by decide) (fun h => by cases h), okc_7 O X _ rfl rfl⟩
theorem ok_mX7_readSpec (O : Nat → Option FieldType) (X : ab_X) : ab_OKm (hb_Gx O X) hb_TB mX7_readSpec ∧ ab_OKc (hb_Gx O X) hb_TB mX7_readSpec := ⟨okm_7 O X _ rfl rfl (hb_w5 92 ⟨rfl, rfl⟩) (by decide) (fun h => by cases h), okc_7 O X _ rfl rfl⟩
theorem ok_mX7_takeNumber (O : Nat → Option FieldType) (X : ab_X) : ab_OKm (hb_Gx O X) hb_TB mX7_takeNumber ∧ ab_OKc (hb_Gx O X) hb_TB mX7_takeNumber := ⟨okm_7 O X _ rfl rfl (hb_w5 96 ⟨rfl, rfl⟩) (by decide) (fun h => by cases h), okc_7 O X _ rfl rfl⟩
theorem ok_mX7_readTest (O : Nat → Option FieldType) (X : ab_X) : ab_OKm (hb_Gx O X) hb_TB mX7_readTest ∧ ab_OKc (hb_Gx O X) hb_TB mX7_readTest := ⟨okm_7 O X _ rfl rfl (hb_w5 100 ⟨rfl, rfl⟩) (by decide) (fun h => by cases h), okc_7 O X _ rfl rfl⟩
theorem ok_mX7_readOneOfTest (O : Nat → Option FieldType) (X : ab_X) : ab_OKm (hb_Gx O X) hb_TB mX7_readOneOfTest ∧ ab_OKc (hb_Gx O X) hb_TB mX7_readOneOfTest := ⟨okm_7 O X _ rfl rfl (hb_w5 105 ⟨rfl, rfl⟩) (by decide) (fun h => by cases h), okc_7 O X _ rfl rfl⟩
theorem ok_mX7_readComparison (O : Nat → Option FieldType) (X : ab_X) : ab_OKm (hb_Gx O X) hb_TB mX7_readComparison ∧ ab_OKc (hb_Gx O X) hb_TB mX7_readComparison := ⟨okm_7 O X _ rfl rfl (hb_w5 111 ⟨rfl, rfl⟩) (by decide) (fun h => by cases h), okc_7 O X _ rfl rfl⟩
theorem ok_mX7_readTerm (O : Nat → Option FieldType) (X : ab_X) : ab_OKm (hb_Gx O X) hb_TB mX7_readTerm ∧ ab_OKc (hb_Gx O X) hb_TB mX7_readTerm := ⟨okm_7 O X _ rfl rfl (hb_w5 120 ⟨rfl, rfl⟩) (by decide) (fun h => by cases h), okc_7 O X _ rfl rfl⟩
theorem ok_mX7_readBody (O : Nat → Option FieldType) (X : ab_X) : ab_OKm (hb_Gx O X) hb_TB mX7_readBody ∧ ab_OKc (hb_Gx O X) hb_TB mX7_readBody := ⟨okm_7 O X _ rfl rfl (hb_w5 124 ⟨rfl, rfl⟩) (by decide) (fun h => by cases h), okc_7 O X _ rfl rfl⟩
theorem ok_mX7_addNode (O : Nat → Option FieldType) (X : ab_X) : ab_OKm (hb_Gx O X) hb_TB mX7_addNode ∧ ab_OKc (hb_Gx O X) hb_TB mX7_addNode := ⟨okm_7 O X _ rfl rfl (hb_w5 153 ⟨rfl, rfl⟩) (by decide) (fun h => by cases h), okc_7 O X _ rfl rfl⟩
theorem ok_mX7_readE (O : Nat → Option FieldType) (X : ab_X) : ab_OKm (hb_Gx O X) hb_TB mX7_readE ∧ ab_OKc (hb_Gx O X) hb_TB mX7_readE := ⟨okm_7 O X _ rfl rfl (hb_w5 145 ⟨rfl, rfl⟩) (by decide) (fun h => by cases h), okc_7 O X _ rfl rfl⟩
theorem ok_mX7_readLet (O : Nat → Option FieldType) (X : ab_X) : ab_OKm (hb_Gx O X) hb_TB mX7_readLet ∧ ab_OKc (hb_Gx O X) hb_TB mX7_readLet := ⟨okm_7 O X _ rfl rfl (hb_w5 149 ⟨rfl, rfl⟩) (by decide) (fun h => by cases h), okc_7 O X _ rfl rfl⟩
theorem ok_mX7_readWithVariable (O : Nat → Option FieldType) (X : ab_X) : ab_OKm (hb_Gx O X) hb_TB mX7_readWithVariable ∧ ab_OKc (hb_Gx O X) hb_TB mX7_readWithVariable := ⟨okm_7 O X _ rfl rfl (hb_w5 157 ⟨rfl, rfl⟩) (by decide) (fun h => by cases h), okc_7 O X _ rfl rfl⟩
theorem ok_mX7_readIf (O : Nat → Option FieldType) (X : ab_X) : ab_OKm (hb_Gx O X) hb_TB mX7_readIf ∧ ab_OKc (hb_Gx O X) hb_TB mX7_readIf := ⟨okm_7 O X _ rfl rfl (hb_w5 165 ⟨rfl, rfl⟩) (by decide) (fun h => by cases h), okc_7 O X _ rfl rfl⟩
theorem ok_mX7_readWith (O : Nat → Option FieldType) (X : ab_X) : ab_OKm (hb_Gx O X) hb_TB mX7_readWith ∧ ab_OKc (hb_Gx O X) hb_TB mX7_readWith := ⟨okm_7 O X _ rfl rfl (hb_w5 173 ⟨rfl, rfl⟩) (by decide) (fun h => by cases h), okc_7 O X _ rfl rfl⟩
theorem ok_mX7_readTry (O : Nat → Option FieldType) (X : ab_X) : ab_OKm (hb_Gx O X) hb_TB mX7_readTry ∧ ab_OKc (hb_Gx O X) hb_TB mX7_readTry := ⟨okm_7 O X _ rfl rfl (hb_w5 177 ⟨rfl, rfl⟩) (by decide) (fun h => by cases h), okc_7 O X _ rfl rfl⟩
theorem ok_mX7_readCompared (O : Nat → Option FieldType) (X : ab_X) : ab_OKm (hb_Gx O X) hb_TB mX7_readCompared ∧ ab_OKc (hb_Gx O X) hb_TB mX7_readCompared := ⟨okm_7 O X _ rfl rfl (hb_w5 181 ⟨rfl, rfl⟩) (by decide) (fun h => by cases h), okc_7 O X _ rfl rfl⟩
theorem ok_mX7_readSum (O : Nat → Option FieldType) (X : ab_X) : ab_OKm (hb_Gx O X) hb_TB mX7_readSum ∧ ab_OKc (hb_Gx O X) hb_TB mX7_readSum := ⟨okm_7 O X _ rfl rfl (hb_w5 185 ⟨rfl, rfl⟩) (by decide) (fun h => by cases h), okc_7 O X _ rfl rfl⟩
theorem ok_mX7_readProduct (O : Nat → Option FieldType) (X : ab_X) : ab_OKm (hb_Gx O X) hb_TB mX7_readProduct ∧ ab_OKc (hb_Gx O X) hb_TB mX7_readProduct := ⟨okm_7 O X _ rfl rfl (hb_w5 189 ⟨rfl, rfl⟩) (by decide) (fun h => by cases h), okc_7 O X _ rfl rfl⟩
theorem ok_mX7_readP (O : Nat → Option FieldType) (X : ab_X) : ab_OKm (hb_Gx O X) hb_TB mX7_readP ∧ ab_OKc (hb_Gx O X) hb_TB mX7_readP := ⟨okm_7 O X _ rfl rfl (hb_w5 193 ⟨rfl, rfl⟩) (by decide) (fun h => by cases h), okc_7 O X _ rfl rfl⟩
theorem ok_mX7_readNamed (O : Nat → Option FieldType) (X : ab_X) : ab_OKm (hb_Gx O X) hb_TB mX7_readNamed ∧ ab_OKc (hb_Gx O X) hb_TB mX7_readNamed := ⟨okm_7 O X _ rfl rfl (hb_w5 197 ⟨rfl, rfl⟩) (by decide) (fun h => by cases h), okc_7 O X _ rfl rfl⟩
theorem ok_mX7_readNext (O : Nat → Option FieldType) (X : ab_X) : ab_OKm (hb_Gx O X) hb_TB mX7_readNext ∧ ab_OKc (hb_Gx O X) hb_TB mX7_readNext := ⟨okm_7 O X _ rfl rfl (hb_w5 205 ⟨rfl, rfl⟩) (by decide) (fun h => by cases h), okc_7 O X _ rfl rfl⟩
theorem ok_mX7_readArguments (O : Nat → Option FieldType) (X : ab_X) : ab_OKm (hb_Gx O X) hb_TB mX7_readArguments ∧ ab_OKc (hb_Gx O X) hb_TB mX7_readArguments := ⟨okm_7 O X _ rfl rfl (hb_w5 201 ⟨rfl, rfl⟩) (by decide) (fun h => by cases h), okc_7 O X _ rfl rfl⟩
theorem hb_N7_0 (O : Nat → Option FieldType) (X : ab_X) : ∀ M ∈ [mX7_init, mX7_readText, mX7_readProgram, mX7_begin, mX7_isClean, mX7_verdict, mX7_sign, mX7_take, mX7_breakRule, mX7_takeNewName, mX7_takeKnownName, mX7_readKind], ab_OKm (hb_Gx O X) hb_TB M ∧ ab_OKc (hb_Gx O X) hb_TB M := List.forall_mem_cons.mpr ⟨ok_mX7_init O X, List.forall_mem_cons.mpr ⟨ok_mX7_readText O X, List.forall_mem_cons.mpr ⟨ok_mX7_readProgram O X, List.forall_mem_cons.mpr ⟨ok_mX7_begin O X, List.forall_mem_cons.mpr ⟨ok_mX7_isClean O X, List.forall_mem_cons.mpr ⟨ok_mX7_verdict O X, List.forall_mem_cons.mpr ⟨ok_mX7_sign O X, List.forall_mem_cons.mpr ⟨ok_mX7_take O X, List.forall_mem_cons.mpr ⟨ok_mX7_breakRule O X, List.forall_mem_cons.mpr ⟨ok_mX7_takeNewName O X, List.forall_mem_cons.mpr ⟨ok_mX7_takeKnownName O X, List.forall_mem_cons.mpr ⟨ok_mX7_readKind O X, fun _ h => absurd h List.not_mem_nil⟩⟩⟩⟩⟩⟩⟩⟩⟩⟩⟩⟩
theorem hb_N7_1 (O : Nat → Option FieldType) (X : ab_X) : ∀ M ∈ [mX7_readCall, mX7_readLayer, mX7_readMethod, mX7_readSpecs, mX7_readSpec, mX7_takeNumber, mX7_readTest, mX7_readOneOfTest, mX7_readComparison, mX7_readTerm, mX7_readBody, mX7_addNode], ab_OKm (hb_Gx O X) hb_TB M ∧ ab_OKc (hb_Gx O X) hb_TB M := List.forall_mem_cons.mpr ⟨ok_mX7_readCall O X, List.forall_mem_cons.mpr ⟨ok_mX7_readLayer O X, List.forall_mem_cons.mpr ⟨ok_mX7_readMethod O X, List.forall_mem_cons.mpr ⟨ok_mX7_readSpecs O X, List.forall_mem_cons.mpr ⟨ok_mX7_readSpec O X, List.forall_mem_cons.mpr ⟨ok_mX7_takeNumber O X, List.forall_mem_cons.mpr ⟨ok_mX7_readTest O X, List.forall_mem_cons.mpr ⟨ok_mX7_readOneOfTest O X, List.forall_mem_cons.mpr ⟨ok_mX7_readComparison O X, List.forall_mem_cons.mpr ⟨ok_mX7_readTerm O X, List.forall_mem_cons.mpr ⟨ok_mX7_readBody O X, List.forall_mem_cons.mpr ⟨ok_mX7_addNode O X, fun _ h => absurd h List.not_mem_nil⟩⟩⟩⟩⟩⟩⟩⟩⟩⟩⟩⟩
theorem hb_N7_2 (O : Nat → Option FieldType) (X : ab_X) : ∀ M ∈ [mX7_readE, mX7_readLet, mX7_readWithVariable, mX7_readIf, mX7_readWith, mX7_readTry, mX7_readCompared, mX7_readSum, mX7_readProduct, mX7_readP, mX7_readNamed, mX7_readNext], ab_OKm (hb_Gx O X) hb_TB M ∧ ab_OKc (hb_Gx O X) hb_TB M := List.forall_mem_cons.mpr ⟨ok_mX7_readE O X, List.forall_mem_cons.mpr ⟨ok_mX7_readLet O X, List.forall_mem_cons.mpr ⟨ok_mX7_readWithVariable O X, List.forall_mem_cons.mpr ⟨ok_mX7_readIf O X, List.forall_mem_cons.mpr ⟨ok_mX7_readWith O X, List.forall_mem_cons.mpr ⟨ok_mX7_readTry O X, List.forall_mem_cons.mpr ⟨ok_mX7_readCompared O X, List.forall_mem_cons.mpr ⟨ok_mX7_readSum O X, List.forall_mem_cons.mpr ⟨ok_mX7_readProduct O X, List.forall_mem_cons.mpr ⟨ok_mX7_readP O X, List.forall_mem_cons.mpr ⟨ok_mX7_readNamed O X, List.forall_mem_cons.mpr ⟨ok_mX7_readNext O X, fun _ h => absurd h List.not_mem_nil⟩⟩⟩⟩⟩⟩⟩⟩⟩⟩⟩⟩
theorem hb_N7_3 (O : Nat → Option FieldType) (X : ab_X) : ∀ M ∈ [mX7_readArguments], ab_OKm (hb_Gx O X) hb_TB M ∧ ab_OKc (hb_Gx O X) hb_TB M := List.forall_mem_cons.mpr ⟨ok_mX7_readArguments O X, fun _ h => absurd h List.not_mem_nil⟩
theorem hb_N7_ok (O : Nat → Option FieldType) (X : ab_X) : ∀ M ∈ hb_N7, ab_OKm (hb_Gx O X) hb_TB M ∧ ab_OKc (hb_Gx O X) hb_TB M := by
  intro M h
  have h : M ∈ [mX7_init, mX7_readText, mX7_readProgram, mX7_begin, mX7_isClean, mX7_verdict, mX7_sign, mX7_take, mX7_breakRule, mX7_takeNewName, mX7_takeKnownName, mX7_readKind] ++ ([mX7_readCall, mX7_readLayer, mX7_readMethod, mX7_readSpecs, mX7_readSpec, mX7_takeNumber, mX7_readTest, mX7_readOneOfTest, mX7_readComparison, mX7_readTerm, mX7_readBody, mX7_addNode] ++ ([mX7_readE, mX7_readLet, mX7_readWithVariable, mX7_readIf, mX7_readWith, mX7_readTry, mX7_readCompared, mX7_readSum, mX7_readProduct, mX7_readP, mX7_readNamed, mX7_readNext] ++ ([mX7_readArguments]))) := h
  rcases List.mem_append.mp h with h | h
  · exact hb_N7_0 O X M h
  rcases List.mem_append.mp h with h | h
  · exact hb_N7_1 O X M h
  rcases List.mem_append.mp h with h | h
  · exact hb_N7_2 O X M h
  exact hb_N7_3 O X M h
theorem okc_8 (O : Nat → Option FieldType) (X : ab_X) (M : ab_MI) (h1 : ab_mo M = 8) (h2 : (ab_my M).cls = RX8) : ab_OKc (hb_Gx O X) hb_TB M := by
  intro ix sort y na ci h
  rw [h1] at h
  exact hb_T8_ok O X ix sort y na ci h M h1 h2
theorem okm_8 (O : Nat → Option FieldType) (X : ab_X) (M : ab_MI) (h1 : ab_mo M = 8) (h2 : (ab_my M).cls = RX8) (hc : Cond.code (ab_my M) (ab_mc M) (ab_mL M) (ab_mr M) ∈ hb_TB) (hl : ab_mL M ≤ 21) (hi : ab_mi M = true → (ab_my M).name = "<init>") : ab_OKm (hb_Gx O X) hb_TB M := by
  refine ⟨hc, by rw [h2]; decide +kernel, hl, hi, ?_, ?_, ?_, ?_⟩
  · rw [h1, h2]
    exact hb_F8_ok _
  · rw [h1, h2]
    exact hb_C8_ok
  · rw [h1, h2]
    exact hb_I8_ok
  · rw [h1, h2]
    exact hb_L8_ok
theorem ok_mX8_init (O : Nat → Option FieldType) (X : ab_X) : ab_OKm (hb_Gx O X) hb_TB mX8_init ∧ ab_OKc (hb_Gx O X) hb_TB mX8_init := ⟨okm_8 O X _ rfl rfl (hb_w2 228 ⟨rfl, rfl⟩) (by decide) (fun _ => rfl), okc_8 O X _ rfl rfl⟩
theorem ok_mX8_cut (O : Nat → Option FieldType) (X : ab_X) : ab_OKm (hb_Gx O X) hb_TB mX8_cut ∧ ab_OKc (hb_Gx O X) hb_TB mX8_cut := ⟨okm_8 O X _ rfl rfl (hb_w4 156 ⟨rfl, rfl⟩) (by decide) (fun h => by cases h), okc_8 O X _ rfl rfl⟩
theorem ok_mX8_put (O : Nat → Option FieldType) (X : ab_X) : ab_OKm (hb_Gx O X) hb_TB mX8_put ∧ ab_OKc (hb_Gx O X) hb_TB mX8_put := ⟨okm_8 O X _ rfl rfl (hb_w4 177 ⟨rfl, rfl⟩) (by decide) (fun h => by cases h), okc_8 O X _ rfl rfl⟩
theorem ok_mX8_cutOne (O : Nat → Option FieldType) (X : ab_X) : ab_OKm (hb_Gx O X) hb_TB mX8_cutOne ∧ ab_OKc (hb_Gx O X) hb_TB mX8_cutOne := ⟨okm_8 O X _ rfl rfl (hb_w4 163 ⟨rfl, rfl⟩) (by decide) (fun h => by cases h), okc_8 O X _ rfl rfl⟩
theorem ok_mX8_cutNumber (O : Nat → Option FieldType) (X : ab_X) : ab_OKm (hb_Gx O X) hb_TB mX8_cutNumber ∧ ab_OKc (hb_Gx O X) hb_TB mX8_cutNumber := ⟨okm_8 O X _ rfl rfl (hb_w4 167 ⟨rfl, rfl⟩) (by decide) (fun h => by cases h), okc_8 O X _ rfl rfl⟩
theorem ok_mX8_cutName (O : Nat → Option FieldType) (X : ab_X) : ab_OKm (hb_Gx O X) hb_TB mX8_cutName ∧ ab_OKc (hb_Gx O X) hb_TB mX8_cutName := ⟨okm_8 O X _ rfl rfl (hb_w4 181 ⟨rfl, rfl⟩) (by decide) (fun h => by cases h), okc_8 O X _ rfl rfl⟩
theorem ok_mX8_cutMark (O : Nat → Option FieldType) (X : ab_X) : ab_OKm (hb_Gx O X) hb_TB mX8_cutMark ∧ ab_OKc (hb_Gx O X) hb_TB mX8_cutMark := ⟨okm_8 O X _ rfl rfl (hb_w4 192 ⟨rfl, rfl⟩) (by decide) (fun h => by cases h), okc_8 O X _ rfl rfl⟩
theorem ok_mX8_codeOf (O : Nat → Option FieldType) (X : ab_X) : ab_OKm (hb_Gx O X) hb_TB mX8_codeOf ∧ ab_OKc (hb_Gx O X) hb_TB mX8_codeOf := ⟨okm_8 O X _ rfl rfl (hb_w2 32 ⟨rfl, rfl⟩) (by decide) (fun h => by cases h), okc_8 O X _ rfl rfl⟩
theorem ok_mX8_packed (O : Nat → Option FieldType) (X : ab_X) : ab_OKm (hb_Gx O X) hb_TB mX8_packed ∧ ab_OKc (hb_Gx O X) hb_TB mX8_packed := ⟨okm_8 O X _ rfl rfl (hb_w1 221 ⟨rfl, rfl⟩) (by decide) (fun h => by cases h), okc_8 O X _ rfl rfl⟩
theorem ok_mX8_wordOrName (O : Nat → Option FieldType) (X : ab_X) : ab_OKm (hb_Gx O X) hb_TB mX8_wordOrName ∧ ab_OKc (hb_Gx O X) hb_TB mX8_wordOrName := ⟨okm_8 O X _ rfl rfl (hb_w4 184 ⟨rfl, rfl⟩) (by decide) (fun h => by cases h), okc_8 O X _ rfl rfl⟩
theorem ok_mX8_isWord (O : Nat → Option FieldType) (X : ab_X) : ab_OKm (hb_Gx O X) hb_TB mX8_isWord ∧ ab_OKc (hb_Gx O X) hb_TB mX8_isWord := ⟨okm_8 O X _ rfl rfl (hb_w4 188 ⟨rfl, rfl⟩) (by decide) (fun h => by cases h), okc_8 O X _ rfl rfl⟩
theorem hb_N8_0 (O : Nat → Option FieldType) (X : ab_X) : ∀ M ∈ [mX8_init, mX8_cut, mX8_put, mX8_cutOne, mX8_cutNumber, mX8_cutName, mX8_cutMark, mX8_codeOf, mX8_packed, mX8_wordOrName, mX8_isWord], ab_OKm (hb_Gx O X) hb_TB M ∧ ab_OKc (hb_Gx O X) hb_TB M := List.forall_mem_cons.mpr ⟨ok_mX8_init O X, List.forall_mem_cons.mpr ⟨ok_mX8_cut O X, List.forall_mem_cons.mpr ⟨ok_mX8_put O X, List.forall_mem_cons.mpr ⟨ok_mX8_cutOne O X, List.forall_mem_cons.mpr ⟨ok_mX8_cutNumber O X, List.forall_mem_cons.mpr ⟨ok_mX8_cutName O X, List.forall_mem_cons.mpr ⟨ok_mX8_cutMark O X, List.forall_mem_cons.mpr ⟨ok_mX8_codeOf O X, List.forall_mem_cons.mpr ⟨ok_mX8_packed O X, List.forall_mem_cons.mpr ⟨ok_mX8_wordOrName O X, List.forall_mem_cons.mpr ⟨ok_mX8_isWord O X, fun _ h => absurd h List.not_mem_nil⟩⟩⟩⟩⟩⟩⟩⟩⟩⟩⟩
theorem hb_N8_ok (O : Nat → Option FieldType) (X : ab_X) : ∀ M ∈ hb_N8, ab_OKm (hb_Gx O X) hb_TB M ∧ ab_OKc (hb_Gx O X) hb_TB M := by
  intro M h
  have h : M ∈ [mX8_init, mX8_cut, mX8_put, mX8_cutOne, mX8_cutNumber, mX8_cutName, mX8_cutMark, mX8_codeOf, mX8_packed, mX8_wordOrName, mX8_isWord] := h
  exact hb_N8_0 O X M h
theorem okc_9 (O : Nat → Option FieldType) (X : ab_X) (M : ab_MI) (h1 : ab_mo M = 9) (h2 : (ab_my M).cls = RX9) : ab_OKc (hb_Gx O X) hb_TB M := by
  intro ix sort y na ci h
  rw [h1] at h
  exact hb_T9_ok O X ix sort y na ci h M h1 h2
theorem okm_9 (O : Nat → Option FieldType) (X : ab_X) (M : ab_MI) (h1 : ab_mo M = 9) (h2 : (ab_my M).cls = RX9) (hc : Cond.code (ab_my M) (ab_mc M) (ab_mL M) (ab_mr M) ∈ hb_TB) (hl : ab_mL M ≤ 21) (hi : ab_mi M = true → (ab_my M).name = "<init>") : ab_OKm (hb_Gx O X) hb_TB M := by
  refine ⟨hc, by rw [h2]; decide +kernel, hl, hi, ?_, ?_, ?_, ?_⟩
  · rw [h1, h2]
    exact hb_F9_ok _
  · rw [h1, h2]
    exact hb_C9_ok
  · rw [h1, h2]
    exact hb_I9_ok
  · rw [h1, h2]
    exact hb_L9_ok
theorem ok_mX9_init (O : Nat → Option FieldType) (X : ab_X) : ab_OKm (hb_Gx O X) hb_TB mX9_init ∧ ab_OKc (hb_Gx O X) hb_TB mX9_init := ⟨okm_9 O X _ rfl rfl (hb_w3 62 ⟨rfl, rfl⟩) (by decide) (fun _ => rfl), okc_9 O X _ rfl rfl⟩
theorem ok_mX9_empty (O : Nat → Option FieldType) (X : ab_X) : ab_OKm (hb_Gx O X) hb_TB mX9_empty ∧ ab_OKc (hb_Gx O X) hb_TB mX9_empty := ⟨okm_9 O X _ rfl rfl (hb_w6 199 ⟨rfl, rfl⟩) (by decide) (fun h => by cases h), okc_9 O X _ rfl rfl⟩
theorem ok_mX9_cutBy (O : Nat → Option FieldType) (X : ab_X) : ab_OKm (hb_Gx O X) hb_TB mX9_cutBy ∧ ab_OKc (hb_Gx O X) hb_TB mX9_cutBy := ⟨okm_9 O X _ rfl rfl (hb_w6 203 ⟨rfl, rfl⟩) (by decide) (fun h => by cases h), okc_9 O X _ rfl rfl⟩
theorem ok_mX9_addCut (O : Nat → Option FieldType) (X : ab_X) : ab_OKm (hb_Gx O X) hb_TB mX9_addCut ∧ ab_OKc (hb_Gx O X) hb_TB mX9_addCut := ⟨okm_9 O X _ rfl rfl (hb_w6 207 ⟨rfl, rfl⟩) (by decide) (fun h => by cases h), okc_9 O X _ rfl rfl⟩
theorem ok_mX9_begin (O : Nat → Option FieldType) (X : ab_X) : ab_OKm (hb_Gx O X) hb_TB mX9_begin ∧ ab_OKc (hb_Gx O X) hb_TB mX9_begin := ⟨okm_9 O X _ rfl rfl (hb_w6 213 ⟨rfl, rfl⟩) (by decide) (fun h => by cases h), okc_9 O X _ rfl rfl⟩
theorem ok_mX9_toNextCell (O : Nat → Option FieldType) (X : ab_X) : ab_OKm (hb_Gx O X) hb_TB mX9_toNextCell ∧ ab_OKc (hb_Gx O X) hb_TB mX9_toNextCell := ⟨okm_9 O X _ rfl rfl (hb_w6 218 ⟨rfl, rfl⟩) (by decide) (fun h => by cases h), okc_9 O X _ rfl rfl⟩
theorem ok_mX9_goToSide (O : Nat → Option FieldType) (X : ab_X) : ab_OKm (hb_Gx O X) hb_TB mX9_goToSide ∧ ab_OKc (hb_Gx O X) hb_TB mX9_goToSide := ⟨okm_9 O X _ rfl rfl (hb_w6 223 ⟨rfl, rfl⟩) (by decide) (fun h => by cases h), okc_9 O X _ rfl rfl⟩
theorem ok_mX9_isTakenBy (O : Nat → Option FieldType) (X : ab_X) : ab_OKm (hb_Gx O X) hb_TB mX9_isTakenBy ∧ ab_OKc (hb_Gx O X) hb_TB mX9_isTakenBy := ⟨okm_9 O X _ rfl rfl (hb_w6 227 ⟨rfl, rfl⟩) (by decide) (fun h => by cases h), okc_9 O X _ rfl rfl⟩
theorem ok_mX9_holds (O : Nat → Option FieldType) (X : ab_X) : ab_OKm (hb_Gx O X) hb_TB mX9_holds ∧ ab_OKc (hb_Gx O X) hb_TB mX9_holds := ⟨okm_9 O X _ rfl rfl (hb_w6 231 ⟨rfl, rfl⟩) (by decide) (fun h => by cases h), okc_9 O X _ rfl rfl⟩
theorem hb_N9_0 (O : Nat → Option FieldType) (X : ab_X) : ∀ M ∈ [mX9_init, mX9_empty, mX9_cutBy, mX9_addCut, mX9_begin, mX9_toNextCell, mX9_goToSide, mX9_isTakenBy, mX9_holds], ab_OKm (hb_Gx O X) hb_TB M ∧ ab_OKc (hb_Gx O X) hb_TB M := List.forall_mem_cons.mpr ⟨ok_mX9_init O X, List.forall_mem_cons.mpr ⟨ok_mX9_empty O X, List.forall_mem_cons.mpr ⟨ok_mX9_cutBy O X, List.forall_mem_cons.mpr ⟨ok_mX9_addCut O X, List.forall_mem_cons.mpr ⟨ok_mX9_begin O X, List.forall_mem_cons.mpr ⟨ok_mX9_toNextCell O X, List.forall_mem_cons.mpr ⟨ok_mX9_goToSide O X, List.forall_mem_cons.mpr ⟨ok_mX9_isTakenBy O X, List.forall_mem_cons.mpr ⟨ok_mX9_holds O X, fun _ h => absurd h List.not_mem_nil⟩⟩⟩⟩⟩⟩⟩⟩⟩
theorem hb_N9_ok (O : Nat → Option FieldType) (X : ab_X) : ∀ M ∈ hb_N9, ab_OKm (hb_Gx O X) hb_TB M ∧ ab_OKc (hb_Gx O X) hb_TB M := by
  intro M h
  have h : M ∈ [mX9_init, mX9_empty, mX9_cutBy, mX9_addCut, mX9_begin, mX9_toNextCell, mX9_goToSide, mX9_isTakenBy, mX9_holds] := h
  exact hb_N9_0 O X M h
theorem okc_10 (O : Nat → Option FieldType) (X : ab_X) (M : ab_MI) (h1 : ab_mo M = 10) (h2 : (ab_my M).cls = RX10) : ab_OKc (hb_Gx O X) hb_TB M := by
  intro ix sort y na ci h
  rw [h1] at h
  exact hb_T10_ok O X ix sort y na ci h M h1 h2
theorem okm_10 (O : Nat → Option FieldType) (X : ab_X) (M : ab_MI) (h1 : ab_mo M = 10) (h2 : (ab_my M).cls = RX10) (hc : Cond.code (ab_my M) (ab_mc M) (ab_mL M) (ab_mr M) ∈ hb_TB) (hl : ab_mL M ≤ 21) (hi : ab_mi M = true → (ab_my M).name = "<init>") : ab_OKm (hb_Gx O X) hb_TB M := by
  refine ⟨hc, by rw [h2]; decide +kernel, hl, hi, ?_, ?_, ?_, ?_⟩
  · rw [h1, h2]
    exact hb_F10_ok _
  · rw [h1, h2]
    exact hb_C10_ok
  · rw [h1, h2]
    exact hb_I10_ok
  · rw [h1, h2]
    exact hb_L10_ok
theorem ok_mX10_init (O : Nat → Option FieldType) (X : ab_X) : ab_OKm (hb_Gx O X) hb_TB mX10_init ∧ ab_OKc (hb_Gx O X) hb_TB mX10_init := ⟨okm_10 O X _ rfl rfl (hb_w3 166 ⟨rfl, rfl⟩) (by decide) (fun _ => rfl), okc_10 O X _ rfl rfl⟩
theorem ok_mX10_judge (O : Nat → Option FieldType) (X : ab_X) : ab_OKm (hb_Gx O X) hb_TB mX10_judge ∧ ab_OKc (hb_Gx O X) hb_TB mX10_judge := ⟨okm_10 O X _ rfl rfl (hb_w7 77 ⟨rfl, rfl⟩) (by decide) (fun h => by cases h), okc_10 O X _ rfl rfl⟩
theorem ok_mX10_goToRow (O : Nat → Option FieldType) (X : ab_X) : ab_OKm (hb_Gx O X) hb_TB mX10_goToRow ∧ ab_OKc (hb_Gx O X) hb_TB mX10_goToRow := ⟨okm_10 O X _ rfl rfl (hb_w7 81 ⟨rfl, rfl⟩) (by decide) (fun h => by cases h), okc_10 O X _ rfl rfl⟩
theorem ok_mX10_keepKinds (O : Nat → Option FieldType) (X : ab_X) : ab_OKm (hb_Gx O X) hb_TB mX10_keepKinds ∧ ab_OKc (hb_Gx O X) hb_TB mX10_keepKinds := ⟨okm_10 O X _ rfl rfl (hb_w7 116 ⟨rfl, rfl⟩) (by decide) (fun h => by cases h), okc_10 O X _ rfl rfl⟩
theorem ok_mX10_gatherFitting (O : Nat → Option FieldType) (X : ab_X) : ab_OKm (hb_Gx O X) hb_TB mX10_gatherFitting ∧ ab_OKc (hb_Gx O X) hb_TB mX10_gatherFitting := ⟨okm_10 O X _ rfl rfl (hb_w7 85 ⟨rfl, rfl⟩) (by decide) (fun h => by cases h), okc_10 O X _ rfl rfl⟩
theorem ok_mX10_judgeRow (O : Nat → Option FieldType) (X : ab_X) : ab_OKm (hb_Gx O X) hb_TB mX10_judgeRow ∧ ab_OKc (hb_Gx O X) hb_TB mX10_judgeRow := ⟨okm_10 O X _ rfl rfl (hb_w7 101 ⟨rfl, rfl⟩) (by decide) (fun h => by cases h), okc_10 O X _ rfl rfl⟩
theorem ok_mX10_hasNearest (O : Nat → Option FieldType) (X : ab_X) : ab_OKm (hb_Gx O X) hb_TB mX10_hasNearest ∧ ab_OKc (hb_Gx O X) hb_TB mX10_hasNearest := ⟨okm_10 O X _ rfl rfl (hb_w7 111 ⟨rfl, rfl⟩) (by decide) (fun h => by cases h), okc_10 O X _ rfl rfl⟩
theorem hb_N10_0 (O : Nat → Option FieldType) (X : ab_X) : ∀ M ∈ [mX10_init, mX10_judge, mX10_goToRow, mX10_keepKinds, mX10_gatherFitting, mX10_judgeRow, mX10_hasNearest], ab_OKm (hb_Gx O X) hb_TB M ∧ ab_OKc (hb_Gx O X) hb_TB M := List.forall_mem_cons.mpr ⟨ok_mX10_init O X, List.forall_mem_cons.mpr ⟨ok_mX10_judge O X, List.forall_mem_cons.mpr ⟨ok_mX10_goToRow O X, List.forall_mem_cons.mpr ⟨ok_mX10_keepKinds O X, List.forall_mem_cons.mpr ⟨ok_mX10_gatherFitting O X, List.forall_mem_cons.mpr ⟨ok_mX10_judgeRow O X, List.forall_mem_cons.mpr ⟨ok_mX10_hasNearest O X, fun _ h => absurd h List.not_mem_nil⟩⟩⟩⟩⟩⟩⟩
theorem hb_N10_ok (O : Nat → Option FieldType) (X : ab_X) : ∀ M ∈ hb_N10, ab_OKm (hb_Gx O X) hb_TB M ∧ ab_OKc (hb_Gx O X) hb_TB M := by
  intro M h
  have h : M ∈ [mX10_init, mX10_judge, mX10_goToRow, mX10_keepKinds, mX10_gatherFitting, mX10_judgeRow, mX10_hasNearest] := h
  exact hb_N10_0 O X M h
theorem okc_11 (O : Nat → Option FieldType) (X : ab_X) (M : ab_MI) (h1 : ab_mo M = 11) (h2 : (ab_my M).cls = RX11) : ab_OKc (hb_Gx O X) hb_TB M := by
  intro ix sort y na ci h
  rw [h1] at h
  exact hb_T11_ok O X ix sort y na ci h M h1 h2
theorem okm_11 (O : Nat → Option FieldType) (X : ab_X) (M : ab_MI) (h1 : ab_mo M = 11) (h2 : (ab_my M).cls = RX11) (hc : Cond.code (ab_my M) (ab_mc M) (ab_mL M) (ab_mr M) ∈ hb_TB) (hl : ab_mL M ≤ 21) (hi : ab_mi M = true → (ab_my M).name = "<init>") : ab_OKm (hb_Gx O X) hb_TB M := by
  refine ⟨hc, by rw [h2]; decide +kernel, hl, hi, ?_, ?_, ?_, ?_⟩
  · rw [h1, h2]
    exact hb_F11_ok _
  · rw [h1, h2]
    exact hb_C11_ok
  · rw [h1, h2]
    exact hb_I11_ok
  · rw [h1, h2]
    exact hb_L11_ok
theorem ok_mX11_init (O : Nat → Option FieldType) (X : ab_X) : ab_OKm (hb_Gx O X) hb_TB mX11_init ∧ ab_OKc (hb_Gx O X) hb_TB mX11_init := ⟨okm_11 O X _ rfl rfl (hb_w1 58 ⟨rfl, rfl⟩) (by decide) (fun _ => rfl), okc_11 O X _ rfl rfl⟩
theorem ok_mX11_isKind (O : Nat → Option FieldType) (X : ab_X) : ab_OKm (hb_Gx O X) hb_TB mX11_isKind ∧ ab_OKc (hb_Gx O X) hb_TB mX11_isKind := ⟨okm_11 O X _ rfl rfl (hb_w6 153 ⟨rfl, rfl⟩) (by decide) (fun h => by cases h), okc_11 O X _ rfl rfl⟩
theorem ok_mX11_find (O : Nat → Option FieldType) (X : ab_X) : ab_OKm (hb_Gx O X) hb_TB mX11_find ∧ ab_OKc (hb_Gx O X) hb_TB mX11_find := ⟨okm_11 O X _ rfl rfl (hb_w5 45 ⟨rfl, rfl⟩) (by decide) (fun h => by cases h), okc_11 O X _ rfl rfl⟩
theorem ok_mX11_isTold (O : Nat → Option FieldType) (X : ab_X) : ab_OKm (hb_Gx O X) hb_TB mX11_isTold ∧ ab_OKc (hb_Gx O X) hb_TB mX11_isTold := ⟨okm_11 O X _ rfl rfl (hb_w5 41 ⟨rfl, rfl⟩) (by decide) (fun h => by cases h), okc_11 O X _ rfl rfl⟩
theorem ok_mX11_isFull (O : Nat → Option FieldType) (X : ab_X) : ab_OKm (hb_Gx O X) hb_TB mX11_isFull ∧ ab_OKc (hb_Gx O X) hb_TB mX11_isFull := ⟨okm_11 O X _ rfl rfl (hb_w2 40 ⟨rfl, rfl⟩) (by decide) (fun h => by cases h), okc_11 O X _ rfl rfl⟩
theorem ok_mX11_addName (O : Nat → Option FieldType) (X : ab_X) : ab_OKm (hb_Gx O X) hb_TB mX11_addName ∧ ab_OKc (hb_Gx O X) hb_TB mX11_addName := ⟨okm_11 O X _ rfl rfl (hb_w2 36 ⟨rfl, rfl⟩) (by decide) (fun h => by cases h), okc_11 O X _ rfl rfl⟩
theorem ok_mX11_beginAnew (O : Nat → Option FieldType) (X : ab_X) : ab_OKm (hb_Gx O X) hb_TB mX11_beginAnew ∧ ab_OKc (hb_Gx O X) hb_TB mX11_beginAnew := ⟨okm_11 O X _ rfl rfl (hb_w6 2 ⟨rfl, rfl⟩) (by decide) (fun h => by cases h), okc_11 O X _ rfl rfl⟩
theorem ok_mX11_keep (O : Nat → Option FieldType) (X : ab_X) : ab_OKm (hb_Gx O X) hb_TB mX11_keep ∧ ab_OKc (hb_Gx O X) hb_TB mX11_keep := ⟨okm_11 O X _ rfl rfl (hb_w5 18 ⟨rfl, rfl⟩) (by decide) (fun h => by cases h), okc_11 O X _ rfl rfl⟩
theorem ok_mX11_goBack (O : Nat → Option FieldType) (X : ab_X) : ab_OKm (hb_Gx O X) hb_TB mX11_goBack ∧ ab_OKc (hb_Gx O X) hb_TB mX11_goBack := ⟨okm_11 O X _ rfl rfl (hb_w5 222 ⟨rfl, rfl⟩) (by decide) (fun h => by cases h), okc_11 O X _ rfl rfl⟩
theorem ok_mX11_takeStock (O : Nat → Option FieldType) (X : ab_X) : ab_OKm (hb_Gx O X) hb_TB mX11_takeStock ∧ ab_OKc (hb_Gx O X) hb_TB mX11_takeStock := ⟨okm_11 O X _ rfl rfl (hb_w2 103 ⟨rfl, rfl⟩) (by decide) (fun h => by cases h), okc_11 O X _ rfl rfl⟩
theorem ok_mX11_takeStockOf (O : Nat → Option FieldType) (X : ab_X) : ab_OKm (hb_Gx O X) hb_TB mX11_takeStockOf ∧ ab_OKc (hb_Gx O X) hb_TB mX11_takeStockOf := ⟨okm_11 O X _ rfl rfl (hb_w2 114 ⟨rfl, rfl⟩) (by decide) (fun h => by cases h), okc_11 O X _ rfl rfl⟩
theorem ok_mX11_methodsOf (O : Nat → Option FieldType) (X : ab_X) : ab_OKm (hb_Gx O X) hb_TB mX11_methodsOf ∧ ab_OKc (hb_Gx O X) hb_TB mX11_methodsOf := ⟨okm_11 O X _ rfl rfl (hb_w7 10 ⟨rfl, rfl⟩) (by decide) (fun h => by cases h), okc_11 O X _ rfl rfl⟩
theorem ok_mX11_listFor (O : Nat → Option FieldType) (X : ab_X) : ab_OKm (hb_Gx O X) hb_TB mX11_listFor ∧ ab_OKc (hb_Gx O X) hb_TB mX11_listFor := ⟨okm_11 O X _ rfl rfl (hb_w7 89 ⟨rfl, rfl⟩) (by decide) (fun h => by cases h), okc_11 O X _ rfl rfl⟩
theorem ok_mX11_fits (O : Nat → Option FieldType) (X : ab_X) : ab_OKm (hb_Gx O X) hb_TB mX11_fits ∧ ab_OKc (hb_Gx O X) hb_TB mX11_fits := ⟨okm_11 O X _ rfl rfl (hb_w6 173 ⟨rfl, rfl⟩) (by decide) (fun h => by cases h), okc_11 O X _ rfl rfl⟩
theorem hb_N11_0 (O : Nat → Option FieldType) (X : ab_X) : ∀ M ∈ [mX11_init, mX11_isKind, mX11_find, mX11_isTold, mX11_isFull, mX11_addName, mX11_beginAnew, mX11_keep, mX11_goBack, mX11_takeStock, mX11_takeStockOf, mX11_methodsOf], ab_OKm (hb_Gx O X) hb_TB M ∧ ab_OKc (hb_Gx O X) hb_TB M := List.forall_mem_cons.mpr ⟨ok_mX11_init O X, List.forall_mem_cons.mpr ⟨ok_mX11_isKind O X, List.forall_mem_cons.mpr ⟨ok_mX11_find O X, List.forall_mem_cons.mpr ⟨ok_mX11_isTold O X, List.forall_mem_cons.mpr ⟨ok_mX11_isFull O X, List.forall_mem_cons.mpr ⟨ok_mX11_addName O X, List.forall_mem_cons.mpr ⟨ok_mX11_beginAnew O X, List.forall_mem_cons.mpr ⟨ok_mX11_keep O X, List.forall_mem_cons.mpr ⟨ok_mX11_goBack O X, List.forall_mem_cons.mpr ⟨ok_mX11_takeStock O X, List.forall_mem_cons.mpr ⟨ok_mX11_takeStockOf O X, List.forall_mem_cons.mpr ⟨ok_mX11_methodsOf O X, fun _ h => absurd h List.not_mem_nil⟩⟩⟩⟩⟩⟩⟩⟩⟩⟩⟩⟩
theorem hb_N11_1 (O : Nat → Option FieldType) (X : ab_X) : ∀ M ∈ [mX11_listFor, mX11_fits], ab_OKm (hb_Gx O X) hb_TB M ∧ ab_OKc (hb_Gx O X) hb_TB M := List.forall_mem_cons.mpr ⟨ok_mX11_listFor O X, List.forall_mem_cons.mpr ⟨ok_mX11_fits O X, fun _ h => absurd h List.not_mem_nil⟩⟩
theorem hb_N11_ok (O : Nat → Option FieldType) (X : ab_X) : ∀ M ∈ hb_N11, ab_OKm (hb_Gx O X) hb_TB M ∧ ab_OKc (hb_Gx O X) hb_TB M := by
  intro M h
  have h : M ∈ [mX11_init, mX11_isKind, mX11_find, mX11_isTold, mX11_isFull, mX11_addName, mX11_beginAnew, mX11_keep, mX11_goBack, mX11_takeStock, mX11_takeStockOf, mX11_methodsOf] ++ ([mX11_listFor, mX11_fits]) := h
  rcases List.mem_append.mp h with h | h
  · exact hb_N11_0 O X M h
  exact hb_N11_1 O X M h
theorem okc_12 (O : Nat → Option FieldType) (X : ab_X) (M : ab_MI) (h1 : ab_mo M = 12) (h2 : (ab_my M).cls = RX12) : ab_OKc (hb_Gx O X) hb_TB M := by
  intro ix sort y na ci h
  rw [h1] at h
  exact hb_T12_ok O X ix sort y na ci h M h1 h2
theorem okm_12 (O : Nat → Option FieldType) (X : ab_X) (M : ab_MI) (h1 : ab_mo M = 12) (h2 : (ab_my M).cls = RX12) (hc : Cond.code (ab_my M) (ab_mc M) (ab_mL M) (ab_mr M) ∈ hb_TB) (hl : ab_mL M ≤ 21) (hi : ab_mi M = true → (ab_my M).name = "<init>") : ab_OKm (hb_Gx O X) hb_TB M := by
  refine ⟨hc, by rw [h2]; decide +kernel, hl, hi, ?_, ?_, ?_, ?_⟩
  · rw [h1, h2]
    exact hb_F12_ok _
  · rw [h1, h2]
    exact hb_C12_ok
  · rw [h1, h2]
    exact hb_I12_ok
  · rw [h1, h2]
    exact hb_L12_ok
theorem ok_mX12_init (O : Nat → Option FieldType) (X : ab_X) : ab_OKm (hb_Gx O X) hb_TB mX12_init ∧ ab_OKc (hb_Gx O X) hb_TB mX12_init := ⟨okm_12 O X _ rfl rfl (hb_w1 50 ⟨rfl, rfl⟩) (by decide) (fun _ => rfl), okc_12 O X _ rfl rfl⟩
theorem ok_mX12_feed (O : Nat → Option FieldType) (X : ab_X) : ab_OKm (hb_Gx O X) hb_TB mX12_feed ∧ ab_OKc (hb_Gx O X) hb_TB mX12_feed := ⟨okm_12 O X _ rfl rfl (hb_w6 15 ⟨rfl, rfl⟩) (by decide) (fun h => by cases h), okc_12 O X _ rfl rfl⟩
theorem ok_mX12_putOnTape (O : Nat → Option FieldType) (X : ab_X) : ab_OKm (hb_Gx O X) hb_TB mX12_putOnTape ∧ ab_OKc (hb_Gx O X) hb_TB mX12_putOnTape := ⟨okm_12 O X _ rfl rfl (hb_w6 95 ⟨rfl, rfl⟩) (by decide) (fun h => by cases h), okc_12 O X _ rfl rfl⟩
theorem ok_mX12_end (O : Nat → Option FieldType) (X : ab_X) : ab_OKm (hb_Gx O X) hb_TB mX12_end ∧ ab_OKc (hb_Gx O X) hb_TB mX12_end := ⟨okm_12 O X _ rfl rfl (hb_w6 103 ⟨rfl, rfl⟩) (by decide) (fun h => by cases h), okc_12 O X _ rfl rfl⟩
theorem ok_mX12_tell (O : Nat → Option FieldType) (X : ab_X) : ab_OKm (hb_Gx O X) hb_TB mX12_tell ∧ ab_OKc (hb_Gx O X) hb_TB mX12_tell := ⟨okm_12 O X _ rfl rfl (hb_w4 148 ⟨rfl, rfl⟩) (by decide) (fun h => by cases h), okc_12 O X _ rfl rfl⟩
theorem ok_mX12_program (O : Nat → Option FieldType) (X : ab_X) : ab_OKm (hb_Gx O X) hb_TB mX12_program ∧ ab_OKc (hb_Gx O X) hb_TB mX12_program := ⟨okm_12 O X _ rfl rfl (hb_w5 230 ⟨rfl, rfl⟩) (by decide) (fun h => by cases h), okc_12 O X _ rfl rfl⟩
theorem ok_mX12_clear (O : Nat → Option FieldType) (X : ab_X) : ab_OKm (hb_Gx O X) hb_TB mX12_clear ∧ ab_OKc (hb_Gx O X) hb_TB mX12_clear := ⟨okm_12 O X _ rfl rfl (hb_w5 238 ⟨rfl, rfl⟩) (by decide) (fun h => by cases h), okc_12 O X _ rfl rfl⟩
theorem ok_mX12_drop (O : Nat → Option FieldType) (X : ab_X) : ab_OKm (hb_Gx O X) hb_TB mX12_drop ∧ ab_OKc (hb_Gx O X) hb_TB mX12_drop := ⟨okm_12 O X _ rfl rfl (hb_w6 125 ⟨rfl, rfl⟩) (by decide) (fun h => by cases h), okc_12 O X _ rfl rfl⟩
theorem ok_mX12_set (O : Nat → Option FieldType) (X : ab_X) : ab_OKm (hb_Gx O X) hb_TB mX12_set ∧ ab_OKc (hb_Gx O X) hb_TB mX12_set := ⟨okm_12 O X _ rfl rfl (hb_w6 134 ⟨rfl, rfl⟩) (by decide) (fun h => by cases h), okc_12 O X _ rfl rfl⟩
theorem ok_mX12_count (O : Nat → Option FieldType) (X : ab_X) : ab_OKm (hb_Gx O X) hb_TB mX12_count ∧ ab_OKc (hb_Gx O X) hb_TB mX12_count := ⟨okm_12 O X _ rfl rfl (hb_w6 142 ⟨rfl, rfl⟩) (by decide) (fun h => by cases h), okc_12 O X _ rfl rfl⟩
theorem ok_mX12_below (O : Nat → Option FieldType) (X : ab_X) : ab_OKm (hb_Gx O X) hb_TB mX12_below ∧ ab_OKc (hb_Gx O X) hb_TB mX12_below := ⟨okm_12 O X _ rfl rfl (hb_w6 149 ⟨rfl, rfl⟩) (by decide) (fun h => by cases h), okc_12 O X _ rfl rfl⟩
theorem ok_mX12_row (O : Nat → Option FieldType) (X : ab_X) : ab_OKm (hb_Gx O X) hb_TB mX12_row ∧ ab_OKc (hb_Gx O X) hb_TB mX12_row := ⟨okm_12 O X _ rfl rfl (hb_w6 161 ⟨rfl, rfl⟩) (by decide) (fun h => by cases h), okc_12 O X _ rfl rfl⟩
theorem ok_mX12_nearer (O : Nat → Option FieldType) (X : ab_X) : ab_OKm (hb_Gx O X) hb_TB mX12_nearer ∧ ab_OKc (hb_Gx O X) hb_TB mX12_nearer := ⟨okm_12 O X _ rfl rfl (hb_w6 169 ⟨rfl, rfl⟩) (by decide) (fun h => by cases h), okc_12 O X _ rfl rfl⟩
theorem ok_mX12_call (O : Nat → Option FieldType) (X : ab_X) : ab_OKm (hb_Gx O X) hb_TB mX12_call ∧ ab_OKc (hb_Gx O X) hb_TB mX12_call := ⟨okm_12 O X _ rfl rfl (hb_w7 6 ⟨rfl, rfl⟩) (by decide) (fun h => by cases h), okc_12 O X _ rfl rfl⟩
theorem ok_mX12_run (O : Nat → Option FieldType) (X : ab_X) : ab_OKm (hb_Gx O X) hb_TB mX12_run ∧ ab_OKc (hb_Gx O X) hb_TB mX12_run := ⟨okm_12 O X _ rfl rfl (hb_w7 124 ⟨rfl, rfl⟩) (by decide) (fun h => by cases h), okc_12 O X _ rfl rfl⟩
theorem ok_mX12_told (O : Nat → Option FieldType) (X : ab_X) : ab_OKm (hb_Gx O X) hb_TB mX12_told ∧ ab_OKc (hb_Gx O X) hb_TB mX12_told := ⟨okm_12 O X _ rfl rfl (hb_w8 73 ⟨rfl, rfl⟩) (by decide) (fun h => by cases h), okc_12 O X _ rfl rfl⟩
theorem ok_mX12_shown (O : Nat → Option FieldType) (X : ab_X) : ab_OKm (hb_Gx O X) hb_TB mX12_shown ∧ ab_OKc (hb_Gx O X) hb_TB mX12_shown := ⟨okm_12 O X _ rfl rfl (hb_w8 81 ⟨rfl, rfl⟩) (by decide) (fun h => by cases h), okc_12 O X _ rfl rfl⟩
theorem ok_mX12_ran (O : Nat → Option FieldType) (X : ab_X) : ab_OKm (hb_Gx O X) hb_TB mX12_ran ∧ ab_OKc (hb_Gx O X) hb_TB mX12_ran := ⟨okm_12 O X _ rfl rfl (hb_w8 88 ⟨rfl, rfl⟩) (by decide) (fun h => by cases h), okc_12 O X _ rfl rfl⟩
theorem ok_mX12_word (O : Nat → Option FieldType) (X : ab_X) : ab_OKm (hb_Gx O X) hb_TB mX12_word ∧ ab_OKc (hb_Gx O X) hb_TB mX12_word := ⟨okm_12 O X _ rfl rfl (hb_w8 96 ⟨rfl, rfl⟩) (by decide) (fun h => by cases h), okc_12 O X _ rfl rfl⟩
theorem ok_mX12_byteOfResult (O : Nat → Option FieldType) (X : ab_X) : ab_OKm (hb_Gx O X) hb_TB mX12_byteOfResult ∧ ab_OKc (hb_Gx O X) hb_TB mX12_byteOfResult := ⟨okm_12 O X _ rfl rfl (hb_w8 100 ⟨rfl, rfl⟩) (by decide) (fun h => by cases h), okc_12 O X _ rfl rfl⟩
theorem hb_N12_0 (O : Nat → Option FieldType) (X : ab_X) : ∀ M ∈ [mX12_init, mX12_feed, mX12_putOnTape, mX12_end, mX12_tell, mX12_program, mX12_clear, mX12_drop, mX12_set, mX12_count, mX12_below, mX12_row], ab_OKm (hb_Gx O X) hb_TB M ∧ ab_OKc (hb_Gx O X) hb_TB M := List.forall_mem_cons.mpr ⟨ok_mX12_init O X, List.forall_mem_cons.mpr ⟨ok_mX12_feed O X, List.forall_mem_cons.mpr ⟨ok_mX12_putOnTape O X, List.forall_mem_cons.mpr ⟨ok_mX12_end O X, List.forall_mem_cons.mpr ⟨ok_mX12_tell O X, List.forall_mem_cons.mpr ⟨ok_mX12_program O X, List.forall_mem_cons.mpr ⟨ok_mX12_clear O X, List.forall_mem_cons.mpr ⟨ok_mX12_drop O X, List.forall_mem_cons.mpr ⟨ok_mX12_set O X, List.forall_mem_cons.mpr ⟨ok_mX12_count O X, List.forall_mem_cons.mpr ⟨ok_mX12_below O X, List.forall_mem_cons.mpr ⟨ok_mX12_row O X, fun _ h => absurd h List.not_mem_nil⟩⟩⟩⟩⟩⟩⟩⟩⟩⟩⟩⟩
theorem hb_N12_1 (O : Nat → Option FieldType) (X : ab_X) : ∀ M ∈ [mX12_nearer, mX12_call, mX12_run, mX12_told, mX12_shown, mX12_ran, mX12_word, mX12_byteOfResult], ab_OKm (hb_Gx O X) hb_TB M ∧ ab_OKc (hb_Gx O X) hb_TB M := List.forall_mem_cons.mpr ⟨ok_mX12_nearer O X, List.forall_mem_cons.mpr ⟨ok_mX12_call O X, List.forall_mem_cons.mpr ⟨ok_mX12_run O X, List.forall_mem_cons.mpr ⟨ok_mX12_told O X, List.forall_mem_cons.mpr ⟨ok_mX12_shown O X, List.forall_mem_cons.mpr ⟨ok_mX12_ran O X, List.forall_mem_cons.mpr ⟨ok_mX12_word O X, List.forall_mem_cons.mpr ⟨ok_mX12_byteOfResult O X, fun _ h => absurd h List.not_mem_nil⟩⟩⟩⟩⟩⟩⟩⟩
theorem hb_N12_ok (O : Nat → Option FieldType) (X : ab_X) : ∀ M ∈ hb_N12, ab_OKm (hb_Gx O X) hb_TB M ∧ ab_OKc (hb_Gx O X) hb_TB M := by
  intro M h
  have h : M ∈ [mX12_init, mX12_feed, mX12_putOnTape, mX12_end, mX12_tell, mX12_program, mX12_clear, mX12_drop, mX12_set, mX12_count, mX12_below, mX12_row] ++ ([mX12_nearer, mX12_call, mX12_run, mX12_told, mX12_shown, mX12_ran, mX12_word, mX12_byteOfResult]) := h
  rcases List.mem_append.mp h with h | h
  · exact hb_N12_0 O X M h
  exact hb_N12_1 O X M h

theorem hs_d0 (B : Nat × (Nat → Nat)) (cA : Nat → ClassId) (n : Nat) : ab_cell B cA (.inr (.inl (0, ab_d0 0 n))) = { cls := cA 0, slots := Array.replicate n (defaultValue .int), vm := .none } := by
  show vp_cell (cA 0) (ab_sA B.1 (.inl (List.replicate n 0))) = _
  simp only [ab_sA, vp_cell, List.length_replicate, ab_na0, arrV]
  congr 1
  apply Array.ext_getElem?
  intro i
  by_cases e : i < n
  · simp [e]
    rfl
  · simp [e]
theorem hs_d1 (B : Nat × (Nat → Nat)) (cA : Nat → ClassId) (n : Nat) : ab_cell B cA (.inr (.inl (1, ab_d0 1 n))) = { cls := cA 1, slots := Array.replicate n (defaultValue .long), vm := .none } := by
  show vp_cell (cA 1) (ab_sA B.1 (.inr (.inl (List.replicate n 0)))) = _
  simp only [ab_sA, vp_cell, List.length_replicate, ab_na1, arrV]
  congr 1
  apply Array.ext_getElem?
  intro i
  by_cases e : i < n
  · simp [e]
    rfl
  · simp [e]
theorem hs_d2 (B : Nat × (Nat → Nat)) (cA : Nat → ClassId) (n : Nat) : ab_cell B cA (.inr (.inl (2, ab_d0 2 n))) = { cls := cA 2, slots := Array.replicate n (defaultValue .byte), vm := .none } := by
  show vp_cell (cA 2) (ab_sA B.1 (.inl (List.replicate n 0))) = _
  simp only [ab_sA, vp_cell, List.length_replicate, ab_na0, arrV]
  congr 1
  apply Array.ext_getElem?
  intro i
  by_cases e : i < n
  · simp [e]
    rfl
  · simp [e]
theorem hs_d3 (B : Nat × (Nat → Nat)) (cA : Nat → ClassId) (n : Nat) : ab_cell B cA (.inr (.inl (3, ab_d0 3 n))) = { cls := cA 3, slots := Array.replicate n (defaultValue .boolean), vm := .none } := by
  show vp_cell (cA 3) (ab_sA B.1 (.inl (List.replicate n 0))) = _
  simp only [ab_sA, vp_cell, List.length_replicate, ab_na0, arrV]
  congr 1
  apply Array.ext_getElem?
  intro i
  by_cases e : i < n
  · simp [e]
    rfl
  · simp [e]
theorem hs_n0 : ∀ (ix y na ci : Nat), hb_T0 ix = some (3, y, na, ci) → False := by
  intro ix y na ci h
  unfold hb_T0 at h
  split at h
  all_goals cases h
theorem hs_n1 : ∀ (ix y na ci : Nat), hb_T1 ix = some (3, y, na, ci) → False := by
  intro ix y na ci h
  unfold hb_T1 at h
  split at h
  all_goals cases h
theorem hs_n2 : ∀ (ix y na ci : Nat), hb_T2 ix = some (3, y, na, ci) → False := by
  intro ix y na ci h
  unfold hb_T2 at h
  split at h
  all_goals cases h
theorem hs_n3 : ∀ (ix y na ci : Nat), hb_T3 ix = some (3, y, na, ci) → False := by
  intro ix y na ci h
  unfold hb_T3 at h
  split at h
  all_goals cases h
theorem hs_n4 : ∀ (ix y na ci : Nat), hb_T4 ix = some (3, y, na, ci) → False := by
  intro ix y na ci h
  unfold hb_T4 at h
  split at h
  all_goals cases h
theorem hs_n5 : ∀ (ix y na ci : Nat), hb_T5 ix = some (3, y, na, ci) → False := by
  intro ix y na ci h
  unfold hb_T5 at h
  split at h
  all_goals cases h
theorem hs_n6 : ∀ (ix y na ci : Nat), hb_T6 ix = some (3, y, na, ci) → False := by
  intro ix y na ci h
  unfold hb_T6 at h
  split at h
  all_goals cases h
theorem hs_n7 {O : Nat → Option FieldType} {X : ab_X} : ∀ (ix y na ci : Nat) (M' : ab_MI), hb_T7 ix = some (3, y, na, ci) → ab_gM (hb_Gx O X) y = some M' → ∃ host : String, Cond.methodLinkNest RX7 ix (ab_my M') host ∈ lw_tbl := by
  intro ix y na ci M' h hM'
  unfold hb_T7 at h
  split at h
  · cases h
  · cases h
    obtain rfl := Option.some.inj ((show ab_gM (hb_Gx O X) 2048 = some mX8_init from rfl).symm.trans hM')
    exact ⟨"DispatchHouse", (hs_w2 226 (by decide +kernel))⟩
  · cases h
  · cases h
  · cases h
  · cases h
  · cases h
  · cases h
  · cases h
  · cases h
  · cases h
  · cases h
  · cases h
  · cases h
  · cases h
  · cases h
  · cases h
  · cases h
  · cases h
  · cases h
  · cases h
  · cases h
  · cases h
  · cases h
  · cases h
  · cases h
  · cases h
  · cases h
  · cases h
  · cases h
  · cases h
  · cases h
  · cases h
  · cases h
  · cases h
  · cases h
  · cases h
  · cases h
  · cases h
  · cases h
  · cases h
  · cases h
  · cases h
  · cases h
  · cases h
  · cases h
  · cases h
  · cases h
  · cases h
  · cases h
  · cases h
  · cases h
  · cases h
  · cases h
  · cases h
theorem hs_n8 : ∀ (ix y na ci : Nat), hb_T8 ix = some (3, y, na, ci) → False := by
  intro ix y na ci h
  unfold hb_T8 at h
  split at h
  all_goals cases h
theorem hs_n9 : ∀ (ix y na ci : Nat), hb_T9 ix = some (3, y, na, ci) → False := by
  intro ix y na ci h
  unfold hb_T9 at h
  split at h
  all_goals cases h
theorem hs_n10 : ∀ (ix y na ci : Nat), hb_T10 ix = some (3, y, na, ci) → False := by
  intro ix y na ci h
  unfold hb_T10 at h
  split at h
  all_goals cases h
theorem hs_n11 {O : Nat → Option FieldType} {X : ab_X} : ∀ (ix y na ci : Nat) (M' : ab_MI), hb_T11 ix = some (3, y, na, ci) → ab_gM (hb_Gx O X) y = some M' → ∃ host : String, Cond.methodLinkNest RX11 ix (ab_my M') host ∈ lw_tbl := by
  intro ix y na ci M' h hM'
  unfold hb_T11 at h
  split at h
  · cases h
  · cases h
    obtain rfl := Option.some.inj ((show ab_gM (hb_Gx O X) 512 = some mX2_init from rfl).symm.trans hM')
    exact ⟨"DispatchHouse", (hs_w1 62 (by decide +kernel))⟩
  · cases h
    obtain rfl := Option.some.inj ((show ab_gM (hb_Gx O X) 1280 = some mX5_init from rfl).symm.trans hM')
    exact ⟨"DispatchHouse", (hs_w1 99 (by decide +kernel))⟩
  · cases h
    obtain rfl := Option.some.inj ((show ab_gM (hb_Gx O X) 256 = some mX1_init from rfl).symm.trans hM')
    exact ⟨"DispatchHouse", (hs_w1 192 (by decide +kernel))⟩
  · cases h
  · cases h
  · cases h
  · cases h
  · cases h
  · cases h
  · cases h
  · cases h
  · cases h
  · cases h
  · cases h
  · cases h
  · cases h
  · cases h
  · cases h
theorem hs_n12 : ∀ (ix y na ci : Nat), hb_T12 ix = some (3, y, na, ci) → False := by
  intro ix y na ci h
  unfold hb_T12 at h
  split at h
  all_goals cases h
theorem hs_n13 {O : Nat → Option FieldType} {X : ab_X} : ∀ (ix y na ci : Nat) (M' : ab_MI), hb_T13 ix = some (3, y, na, ci) → ab_gM (hb_Gx O X) y = some M' → ∃ host : String, Cond.methodLinkNest RX13 ix (ab_my M') host ∈ lw_tbl := by
  intro ix y na ci M' h hM'
  unfold hb_T13 at h
  split at h
  · cases h
  · cases h
    obtain rfl := Option.some.inj ((show ab_gM (hb_Gx O X) 4864 = some mX19_init from rfl).symm.trans hM')
    exact ⟨"DispatchHouseModel", (hs_w8 206 (by decide +kernel))⟩
  · cases h
theorem hs_n14 : ∀ (ix y na ci : Nat), hb_T14 ix = some (3, y, na, ci) → False := by
  intro ix y na ci h
  unfold hb_T14 at h
  split at h
  all_goals cases h
theorem hs_n15 : ∀ (ix y na ci : Nat), hb_T15 ix = some (3, y, na, ci) → False := by
  intro ix y na ci h
  unfold hb_T15 at h
  split at h
  all_goals cases h
theorem hs_n16 : ∀ (ix y na ci : Nat), hb_T16 ix = some (3, y, na, ci) → False := by
  intro ix y na ci h
  unfold hb_T16 at h
  split at h
  all_goals cases h
theorem hs_n17 {O : Nat → Option FieldType} {X : ab_X} : ∀ (ix y na ci : Nat) (M' : ab_MI), hb_T17 ix = some (3, y, na, ci) → ab_gM (hb_Gx O X) y = some M' → ∃ host : String, Cond.methodLinkNest RX17 ix (ab_my M') host ∈ lw_tbl := by
  intro ix y na ci M' h hM'
  unfold hb_T17 at h
  split at h
  · cases h
  · cases h
    obtain rfl := Option.some.inj ((show ab_gM (hb_Gx O X) 4864 = some mX19_init from rfl).symm.trans hM')
    exact ⟨"DispatchHouseModel", (hs_w8 165 (by decide +kernel))⟩
  · cases h
theorem hs_n18 : ∀ (ix y na ci : Nat), hb_T18 ix = some (3, y, na, ci) → False := by
  intro ix y na ci h
  unfold hb_T18 at h
  split at h
  all_goals cases h
theorem hs_n19 : ∀ (ix y na ci : Nat), hb_T19 ix = some (3, y, na, ci) → False := by
  intro ix y na ci h
  unfold hb_T19 at h
  split at h
  all_goals cases h
theorem hs_n20 : ∀ (ix y na ci : Nat), hb_T20 ix = some (3, y, na, ci) → False := by
  intro ix y na ci h
  unfold hb_T20 at h
  split at h
  all_goals cases h
theorem hs_n21 {O : Nat → Option FieldType} {X : ab_X} : ∀ (ix y na ci : Nat) (M' : ab_MI), hb_T21 ix = some (3, y, na, ci) → ab_gM (hb_Gx O X) y = some M' → ∃ host : String, Cond.methodLinkNest RX21 ix (ab_my M') host ∈ lw_tbl := by
  intro ix y na ci M' h hM'
  unfold hb_T21 at h
  split at h
  · cases h
  · cases h
  · cases h
  · cases h
    obtain rfl := Option.some.inj ((show ab_gM (hb_Gx O X) 5120 = some mX20_init from rfl).symm.trans hM')
    exact ⟨"DispatchHouseModel", (hs_w11 235 (by decide +kernel))⟩
  · cases h
  · cases h
  · cases h
  · cases h
theorem hs_n22 : ∀ (ix y na ci : Nat), hb_T22 ix = some (3, y, na, ci) → False := by
  intro ix y na ci h
  unfold hb_T22 at h
  split at h
  all_goals cases h
theorem hs_n23 {O : Nat → Option FieldType} {X : ab_X} : ∀ (ix y na ci : Nat) (M' : ab_MI), hb_T23 ix = some (3, y, na, ci) → ab_gM (hb_Gx O X) y = some M' → ∃ host : String, Cond.methodLinkNest RX23 ix (ab_my M') host ∈ lw_tbl := by
  intro ix y na ci M' h hM'
  unfold hb_T23 at h
  split at h
  · cases h
  · cases h
  · cases h
  · cases h
  · cases h
  · cases h
  · cases h
  · cases h
  · cases h
  · cases h
  · cases h
  · cases h
  · cases h
  · cases h
  · cases h
  · cases h
  · cases h
  · cases h
  · cases h
  · cases h
  · cases h
  · cases h
  · cases h
  · cases h
  · cases h
  · cases h
  · cases h
  · cases h
  · cases h
  · cases h
  · cases h
  · cases h
  · cases h
  · cases h
  · cases h
  · cases h
  · cases h
  · cases h
  · cases h
  · cases h
  · cases h
  · cases h
  · cases h
  · cases h
  · cases h
  · cases h
  · cases h
  · cases h
  · cases h
  · cases h
  · cases h
  · cases h
  · cases h
  · cases h
  · cases h
  · cases h
  · cases h
  · cases h
  · cases h
  · cases h
  · cases h
  · cases h
  · cases h
  · cases h
  · cases h
  · cases h
  · cases h
  · cases h
  · cases h
  · cases h
  · cases h
  · cases h
  · cases h
  · cases h
  · cases h
  · cases h
  · cases h
  · cases h
  · cases h
  · cases h
  · cases h
  · cases h
  · cases h
  · cases h
  · cases h
  · cases h
  · cases h
  · cases h
  · cases h
  · cases h
  · cases h
  · cases h
  · cases h
  · cases h
  · cases h
  · cases h
  · cases h
  · cases h
  · cases h
  · cases h
  · cases h
  · cases h
  · cases h
  · cases h
  · cases h
  · cases h
  · cases h
  · cases h
  · cases h
  · cases h
  · cases h
  · cases h
  · cases h
  · cases h
  · cases h
  · cases h
  · cases h
    obtain rfl := Option.some.inj ((show ab_gM (hb_Gx O X) 5376 = some mX21_init from rfl).symm.trans hM')
    exact ⟨"DispatchHouseModel", (hs_w8 117 (by decide +kernel))⟩
  · cases h
    obtain rfl := Option.some.inj ((show ab_gM (hb_Gx O X) 4352 = some mX17_init from rfl).symm.trans hM')
    exact ⟨"DispatchHouseModel", (hs_w8 159 (by decide +kernel))⟩
  · cases h
    obtain rfl := Option.some.inj ((show ab_gM (hb_Gx O X) 3328 = some mX13_init from rfl).symm.trans hM')
    exact ⟨"DispatchHouseModel", (hs_w8 201 (by decide +kernel))⟩
  · cases h
    obtain rfl := Option.some.inj ((show ab_gM (hb_Gx O X) 4608 = some mX18_init from rfl).symm.trans hM')
    exact ⟨"DispatchHouseModel", (hs_w8 222 (by decide +kernel))⟩
  · cases h
  · cases h
  · cases h
    obtain rfl := Option.some.inj ((show ab_gM (hb_Gx O X) 4864 = some mX19_init from rfl).symm.trans hM')
    exact ⟨"DispatchHouseModel", (hs_w9 72 (by decide +kernel))⟩
  · cases h
    obtain rfl := Option.some.inj ((show ab_gM (hb_Gx O X) 3584 = some mX14_init from rfl).symm.trans hM')
    exact ⟨"DispatchHouseModel", (hs_w9 74 (by decide +kernel))⟩
  · cases h
  · cases h
  · cases h
  · cases h
  · cases h
  · cases h
  · cases h
  · cases h
  · cases h
  · cases h
  · cases h
  · cases h
theorem hs_n31 : ∀ (ix y na ci : Nat), hb_T31 ix = some (3, y, na, ci) → False := by
  intro ix y na ci h
  unfold hb_T31 at h
  split at h
  all_goals cases h
theorem hs_n33 : ∀ (ix y na ci : Nat), hb_T33 ix = some (3, y, na, ci) → False := by
  intro ix y na ci h
  unfold hb_T33 at h
  split at h
  all_goals cases h
theorem hs_n35 : ∀ (ix y na ci : Nat), hb_T35 ix = some (3, y, na, ci) → False := by
  intro ix y na ci h
  unfold hb_T35 at h
  split at h
  all_goals cases h
theorem hs_n37 : ∀ (ix y na ci : Nat), hb_T37 ix = some (3, y, na, ci) → False := by
  intro ix y na ci h
  unfold hb_T37 at h
  split at h
  all_goals cases h
theorem hs_n38 : ∀ (ix y na ci : Nat), hb_T38 ix = some (3, y, na, ci) → False := by
  intro ix y na ci h
  unfold hb_T38 at h
  split at h
  all_goals cases h
theorem hs_n39 : ∀ (ix y na ci : Nat), hb_T39 ix = some (3, y, na, ci) → False := by
  intro ix y na ci h
  unfold hb_T39 at h
  split at h
  all_goals cases h
theorem hs_n41 : ∀ (ix y na ci : Nat), hb_T41 ix = some (3, y, na, ci) → False := by
  intro ix y na ci h
  unfold hb_T41 at h
  split at h
  all_goals cases h
theorem hs_n42 : ∀ (ix y na ci : Nat), hb_T42 ix = some (3, y, na, ci) → False := by
  intro ix y na ci h
  unfold hb_T42 at h
  split at h
  all_goals cases h
theorem hs_n43 : ∀ (ix y na ci : Nat), hb_T43 ix = some (3, y, na, ci) → False := by
  intro ix y na ci h
  unfold hb_T43 at h
  split at h
  all_goals cases h
theorem hs_n44 : ∀ (ix y na ci : Nat), hb_T44 ix = some (3, y, na, ci) → False := by
  intro ix y na ci h
  unfold hb_T44 at h
  split at h
  all_goals cases h
theorem hs_n47 : ∀ (ix y na ci : Nat), hb_T47 ix = some (3, y, na, ci) → False := by
  intro ix y na ci h
  unfold hb_T47 at h
  split at h
  all_goals cases h
theorem hs_n50 : ∀ (ix y na ci : Nat), hb_T50 ix = some (3, y, na, ci) → False := by
  intro ix y na ci h
  unfold hb_T50 at h
  split at h
  all_goals cases h
theorem hs_n51 : ∀ (ix y na ci : Nat), hb_T51 ix = some (3, y, na, ci) → False := by
  intro ix y na ci h
  unfold hb_T51 at h
  split at h
  all_goals cases h
theorem hs_n60 : ∀ (ix y na ci : Nat), hb_T60 ix = some (3, y, na, ci) → False := by
  intro ix y na ci h
  unfold hb_T60 at h
  split at h
  all_goals cases h
theorem hs_n61 : ∀ (ix y na ci : Nat), hb_T61 ix = some (3, y, na, ci) → False := by
  intro ix y na ci h
  unfold hb_T61 at h
  split at h
  all_goals cases h
theorem hs_n62 : ∀ (ix y na ci : Nat), hb_T62 ix = some (3, y, na, ci) → False := by
  intro ix y na ci h
  unfold hb_T62 at h
  split at h
  all_goals cases h
theorem hs_n63 : ∀ (ix y na ci : Nat), hb_T63 ix = some (3, y, na, ci) → False := by
  intro ix y na ci h
  unfold hb_T63 at h
  split at h
  all_goals cases h
theorem hs_n64 : ∀ (ix y na ci : Nat), hb_T64 ix = some (3, y, na, ci) → False := by
  intro ix y na ci h
  unfold hb_T64 at h
  split at h
  all_goals cases h
theorem hs_n65 : ∀ (ix y na ci : Nat), hb_T65 ix = some (3, y, na, ci) → False := by
  intro ix y na ci h
  unfold hb_T65 at h
  split at h
  all_goals cases h
theorem hs_n66 : ∀ (ix y na ci : Nat), hb_T66 ix = some (3, y, na, ci) → False := by
  intro ix y na ci h
  unfold hb_T66 at h
  split at h
  all_goals cases h
theorem hs_n67 : ∀ (ix y na ci : Nat), hb_T67 ix = some (3, y, na, ci) → False := by
  intro ix y na ci h
  unfold hb_T67 at h
  split at h
  all_goals cases h
theorem hs_n68 : ∀ (ix y na ci : Nat), hb_T68 ix = some (3, y, na, ci) → False := by
  intro ix y na ci h
  unfold hb_T68 at h
  split at h
  all_goals cases h
theorem hs_n52 : ∀ (ix y na ci : Nat), hb_T52 ix = some (3, y, na, ci) → False := by
  intro ix y na ci h
  unfold hb_T52 at h
  split at h
  all_goals cases h
theorem hs_nest {O : Nat → Option FieldType} {X : ab_X} {q : Nat} {own : String} (ho : ab_own (hb_Gx O X) q own) (ix y na ci : Nat) (M' : ab_MI) (h : ab_gT (hb_Gx O X) q ix = some (3, y, na, ci)) (hM' : ab_gM (hb_Gx O X) y = some M') : ∃ host : String, Cond.methodLinkNest own ix (ab_my M') host ∈ lw_tbl := by
  have e := hb_own ho
  subst e
  have h : hb_T q ix = some (3, y, na, ci) := h
  unfold hb_T at h
  split at h
  · exact (hs_n0 ix y na ci h).elim
  · exact (hs_n1 ix y na ci h).elim
  · exact (hs_n2 ix y na ci h).elim
  · exact (hs_n3 ix y na ci h).elim
  · exact (hs_n4 ix y na ci h).elim
  · exact (hs_n5 ix y na ci h).elim
  · exact (hs_n6 ix y na ci h).elim
  · exact hs_n7 ix y na ci M' h hM'
  · exact (hs_n8 ix y na ci h).elim
  · exact (hs_n9 ix y na ci h).elim
  · exact (hs_n10 ix y na ci h).elim
  · exact hs_n11 ix y na ci M' h hM'
  · exact (hs_n12 ix y na ci h).elim
  · exact hs_n13 ix y na ci M' h hM'
  · exact (hs_n14 ix y na ci h).elim
  · exact (hs_n15 ix y na ci h).elim
  · exact (hs_n16 ix y na ci h).elim
  · exact hs_n17 ix y na ci M' h hM'
  · exact (hs_n18 ix y na ci h).elim
  · exact (hs_n19 ix y na ci h).elim
  · exact (hs_n20 ix y na ci h).elim
  · exact hs_n21 ix y na ci M' h hM'
  · exact (hs_n22 ix y na ci h).elim
  · exact hs_n23 ix y na ci M' h hM'
  · exact (hs_n31 ix y na ci h).elim
  · exact (hs_n33 ix y na ci h).elim
  · exact (hs_n35 ix y na ci h).elim
  · exact (hs_n37 ix y na ci h).elim
  · exact (hs_n38 ix y na ci h).elim
  · exact (hs_n39 ix y na ci h).elim
  · exact (hs_n41 ix y na ci h).elim
  · exact (hs_n42 ix y na ci h).elim
  · exact (hs_n43 ix y na ci h).elim
  · exact (hs_n44 ix y na ci h).elim
  · exact (hs_n47 ix y na ci h).elim
  · exact (hs_n50 ix y na ci h).elim
  · exact (hs_n51 ix y na ci h).elim
  · exact (hs_n60 ix y na ci h).elim
  · exact (hs_n61 ix y na ci h).elim
  · exact (hs_n62 ix y na ci h).elim
  · exact (hs_n63 ix y na ci h).elim
  · exact (hs_n64 ix y na ci h).elim
  · exact (hs_n65 ix y na ci h).elim
  · exact (hs_n66 ix y na ci h).elim
  · exact (hs_n67 ix y na ci h).elim
  · exact (hs_n68 ix y na ci h).elim
  · exact (hs_n52 ix y na ci h).elim
  · cases h
def hs_B (s : State) (lo : Nat → Nat) (ad : Nat → Nat × Nat) : Nat × (Nat → Nat) := (s.heap.size, fun j => if 100 ≤ j then (if j % 2 = 0 then (ad ((j - 100) / 2)).1 else (ad ((j - 101) / 2)).2) else lo j)
/-- the statics and arrays that were there before -/
def hs_Z (s : State) (lo : Nat → Nat) (z4 z5 z6 : Value) (B : Nat × (Nat → Nat)) : Prop :=
  va_Z "DispatchHouse$World" "FIRST_NAME" "[I" (.ref (lo 0)) (fun q : Nat => s.heap.size ≤ q) s s.heap ∧ va_Z "DispatchHouse$World" "MOST_NAMES" "[I" (.ref (lo 1)) (fun q : Nat => s.heap.size ≤ q) s s.heap ∧ va_Z "DispatchHouse$Reader" "TRUTH" "[J" (.ref (lo 2)) (fun q : Nat => s.heap.size ≤ q) s s.heap ∧ va_Z "DispatchHouse$Lists" "ORDERS" "[I" (.ref (lo 3)) (fun q : Nat => s.heap.size ≤ q) s s.heap ∧
  va_Z "java/util/ArrayList" "DEFAULTCAPACITY_EMPTY_ELEMENTDATA" "[Ljava/lang/Object;" (.ref (lo 7)) (fun q : Nat => s.heap.size ≤ q) s s.heap ∧ va_Z "java/lang/String" "COMPACT_STRINGS" "Z" (.int 1) (fun q : Nat => s.heap.size ≤ q) s s.heap ∧
  va_Z "jdk/internal/util/Preconditions" "SIOOBE_FORMATTER" "Ljava/util/function/BiFunction;" (ab_rl B z4) (fun q : Nat => s.heap.size ≤ q) s s.heap ∧ va_Z "java/lang/Throwable" "UNASSIGNED_STACK" "[Ljava/lang/StackTraceElement;" (ab_rl B z5) (fun q : Nat => s.heap.size ≤ q) s s.heap ∧ va_Z "java/lang/Throwable" "SUPPRESSED_SENTINEL" "Ljava/util/List;" (ab_rl B z6) (fun q : Nat => s.heap.size ≤ q) s s.heap
def hs_A (s : State) (lo : Nat → Nat) (L : Nat) (xs : Nat → Int32) : Prop :=
  va_T .int (lo 0) 4 (fun i => .int (([0, 24, 48, 56] : List Int32).getD i 0)) (fun q : Nat => s.heap.size ≤ q) s s.heap ∧ va_T .int (lo 1) 4 (fun i => .int (([24, 24, 8, 16] : List Int32).getD i 0)) (fun q : Nat => s.heap.size ≤ q) s s.heap ∧
  va_T .long (lo 2) 6 (fun i => .long (([-6148914691236517206, -3689348814741910324, -1085102592571150096, -71777214294589696, -281470681808896, -4294967296] : List Int64).getD i 0)) (fun q : Nat => s.heap.size ≤ q) s s.heap ∧
  va_T .int (lo 3) 18 (fun i => .int (([0, 1, 2, 0, 2, 1, 1, 0, 2, 1, 2, 0, 2, 0, 1, 2, 1, 0] : List Int32).getD i 0)) (fun q : Nat => s.heap.size ≤ q) s s.heap ∧ va_T (.object "java/lang/Object") (lo 7) 0 (fun _ => .null) (fun q : Nat => s.heap.size ≤ q) s s.heap ∧ va_T .int (lo 9) L (fun i => .int (xs i)) (fun q : Nat => s.heap.size ≤ q) s s.heap
theorem hs_lt {i : Nat} (h : i < 43) : ∃ q, hs_tab[i]? = some q := ⟨_, List.getElem?_eq_getElem (show i < hs_tab.length from h)⟩
/-- one String, one row of letters -/
theorem hs_eqS {own own2 : String} {ix ix2 : Nat} {bs bs2 : List Int32} {q q2 : Nat × Nat} {args : Array Value} {s : State} (hN : bs.length < 2 ^ 31) (hN2 : bs2.length < 2 ^ 31) (e : q.1 = q2.1) (h : hs_S own ix bs q args s) (h2 : hs_S own2 ix2 bs2 q2 args s) : bs = bs2 := by
  obtain ⟨-, -, -, ⟨cf, k, i, f, cell, a1, a2, a3, a4, a5, -⟩, hT⟩ := h
  obtain ⟨-, -, -, ⟨cf2, k2, i2, f2, cell2, b1, b2, b3, b4, b5, -⟩, hT2⟩ := h2
  rw [a1] at b1
  cases b1
  rw [← e, a3] at b3
  cases b3
  rw [a5] at b5
  have e2 : q.2 = q2.2 := by
    have := Option.some.inj b5
    injection this
  obtain ⟨c, c1, c2, c3, c4, c5, c6, -⟩ := hT
  obtain ⟨d, d1, d2, d3, d4, d5, d6, -⟩ := hT2
  rw [← e2, c1] at d1
  cases d1
  have hl : bs.length = bs2.length := by
    rw [c5] at d5
    have := congrArg Int32.toInt d5
    rw [Int32.toInt_ofNat_of_lt hN, Int32.toInt_ofNat_of_lt hN2] at this
    omega
  refine List.ext_getElem hl fun n h1 h2 => ?_
  have x1 := c6 n h1
  have x2 := d6 n (by omega)
  rw [x1] at x2
  have x3 := Option.some.inj x2
  injection x3 with x3
  rw [List.getD_eq_getElem?_getD, List.getD_eq_getElem?_getD, List.getElem?_eq_getElem h1, List.getElem?_eq_getElem h2] at x3
  exact x3
theorem hs_difA : ∀ i : Fin 43, ∀ j : Fin 43, (i.val = 5 ∨ 9 ≤ i.val) → (j.val = 5 ∨ 9 ≤ j.val) → i.val ≠ j.val → (hs_tab[i.val]?).map (fun q => q.2.2) ≠ (hs_tab[j.val]?).map (fun q => q.2.2) := by decide +kernel
theorem hs_dif {i j : Nat} {q q2 : String × Nat × List Int32} (hi : i = 5 ∨ 9 ≤ i) (hj : j = 5 ∨ 9 ≤ j) (hij : i ≠ j) (h : hs_tab[i]? = some q) (h2 : hs_tab[j]? = some q2) (e : q.2.2 = q2.2.2) : False := by
  have l1 : i < 43 := (List.getElem?_eq_some_iff.mp h).1
  have l2 : j < 43 := (List.getElem?_eq_some_iff.mp h2).1
  refine hs_difA ⟨i, l1⟩ ⟨j, l2⟩ hi hj hij ?_
  show (hs_tab[i]?).map (fun q => q.2.2) = (hs_tab[j]?).map (fun q => q.2.2)
  rw [h, h2]
  exact congrArg some e
set_option maxRecDepth 20000 in
set_option maxHeartbeats 4000000 in
/-- what was there before is as the tables have it -/
theorem hs_Xf {s : State} {b L : Nat} {xs : Nat → Int32} (hts : ∀ w ∈ lw_tbl, w.before #[Value.ref b] s = true) (lo : Nat → Nat) (ad : Nat → Nat × Nat) (z4 z5 z6 : Value) (had : ∀ (i : Nat) (q : String × Nat × List Int32), hs_tab[i]? = some q → hs_S q.1 q.2.1 q.2.2 (ad i) #[Value.ref b] s) (hZ : hs_Z s lo z4 z5 z6 (hs_B s lo ad)) (hA : hs_A s lo L xs) (hM8 : va_Mi "[Ljava/lang/Object;" (lo 8) s) :
    ab_Xf (hs_B s lo ad) (hb_Gz (some z4, some z5, some z6) (some (0, L, fun i => .int (xs i)))) hb_TB (hs_cA s) s s.heap := by
  obtain ⟨y0, y1, y2, y3, y7, yc, y4, y5, y6⟩ := hZ
  obtain ⟨a0, a1, a2, a3, a7, a9⟩ := hA
  refine ⟨fun q own ho ix v h => ?_, fun q own ho ix fid h => ?_, fun j t n f h => ?_, fun q own ho ix j h => ?_, fun q own ho ix y na ci M' h hM' => ?_, fun j h => ?_, fun q own ho ix k h => ?_, fun q own ho ix ks h => ?_, fun ci k h => ?_, fun q own ho ix ci h => ?_, fun q own ho ix h => ?_, fun j h => ?_, fun i j h => ?_, fun own ho ix j na ci h => ?_⟩
  · have e := hb_own ho
    subst e
    have h : hb_Xs (some z4, some z5, some z6) q ix = some v := h
    unfold hb_Xs at h
    split at h
    · cases h
      exact ⟨"DispatchHouse$Lists", "ORDERS", "[I", (hb_w7 31 (by decide +kernel)), y3⟩
    · cases h
      exact ⟨"DispatchHouse$Reader", "TRUTH", "[J", (hb_w5 106 (by decide +kernel)), y2⟩
    · cases h
      exact ⟨"DispatchHouse$World", "MOST_NAMES", "[I", (hb_w2 41 (by decide +kernel)), y1⟩
    · cases h
      exact ⟨"DispatchHouse$World", "FIRST_NAME", "[I", (hb_w2 43 (by decide +kernel)), y0⟩
    · cases h
      exact ⟨"java/lang/String", "COMPACT_STRINGS", "Z", (hb_w1 230 (by decide +kernel)), yc⟩
    · cases h
      exact ⟨"jdk/internal/util/Preconditions", "SIOOBE_FORMATTER", "Ljava/util/function/BiFunction;", (hb_w2 6 (by decide +kernel)), y4⟩
    · cases h
      exact ⟨"java/util/ArrayList", "DEFAULTCAPACITY_EMPTY_ELEMENTDATA", "[Ljava/lang/Object;", (hb_w8 133 (by decide +kernel)), y7⟩
    · cases h
      exact ⟨"java/lang/Throwable", "UNASSIGNED_STACK", "[Ljava/lang/StackTraceElement;", (hb_w6 42 (by decide +kernel)), y5⟩
    · cases h
      exact ⟨"java/lang/Throwable", "SUPPRESSED_SENTINEL", "Ljava/util/List;", (hb_w6 44 (by decide +kernel)), y6⟩
    · cases h
      exact ⟨"java/lang/Throwable", "UNASSIGNED_STACK", "[Ljava/lang/StackTraceElement;", (hb_w6 42 (by decide +kernel)), y5⟩
    · cases h
      exact ⟨"java/lang/Throwable", "SUPPRESSED_SENTINEL", "Ljava/util/List;", (hb_w6 44 (by decide +kernel)), y6⟩
    · cases h
      exact ⟨"java/lang/Throwable", "UNASSIGNED_STACK", "[Ljava/lang/StackTraceElement;", (hb_w6 42 (by decide +kernel)), y5⟩
    · cases h
      exact ⟨"java/lang/Throwable", "SUPPRESSED_SENTINEL", "Ljava/util/List;", (hb_w6 44 (by decide +kernel)), y6⟩
    · cases h
  · have e := hb_own ho
    subst e
    have h : hb_Xf q ix = some fid := h
    have key : ∀ (j fid : Nat) (v : Value), hb_Xo j fid = some v → ∃ i q, hs_tab[i]? = some q ∧ (hs_B s lo ad).2 j = (ad i).1 ∧ (fid = 0 ∧ ab_rl (hs_B s lo ad) v = .ref (ad i).2 ∨ fid = 1 ∧ v = .int 0) := by
      intro j fid v hv
      unfold hb_Xo at hv
      split at hv
      · rename_i hj
        obtain ⟨q2, hq2⟩ := hs_lt (i := (j - 100) / 2) (by omega)
        refine ⟨(j - 100) / 2, q2, hq2, ?_, ?_⟩
        · show (if 100 ≤ j then (if j % 2 = 0 then (ad ((j - 100) / 2)).1 else _) else _) = _
          rw [if_pos hj.1, if_pos hj.2.2]
        · split at hv
          · cases hv
            refine Or.inl ⟨rfl, ?_⟩
            show Value.ref (if 100 ≤ j + 1 then (if (j + 1) % 2 = 0 then _ else (ad ((j + 1 - 101) / 2)).2) else _) = _
            rw [if_pos (by omega), if_neg (by omega), show j + 1 - 101 = j - 100 by omega]
          · cases hv
            exact Or.inr ⟨rfl, rfl⟩
          · cases hv
      · cases hv
    unfold hb_Xf at h
    split at h
    · cases h
      refine ⟨"java/lang/String", "value", "[B", (hb_w14 22 (by decide +kernel)), fun j v hj => ?_⟩
      obtain ⟨i, q, g1, g2, g3⟩ := key j 0 v hj
      rcases g3 with ⟨-, g3⟩ | ⟨g3, -⟩
      · rw [g2, g3]
        exact (had i q g1).2.2.2.1
      · cases g3
    · cases h
      refine ⟨"java/lang/String", "coder", "B", (hb_w14 23 (by decide +kernel)), fun j v hj => ?_⟩
      obtain ⟨i, q, g1, g2, g3⟩ := key j 1 v hj
      rcases g3 with ⟨g3, -⟩ | ⟨-, g3⟩
      · cases g3
      · rw [g2, g3]
        exact (had i q g1).2.2.1
    · cases h
  · have h : hb_Xa (some (0, L, fun i => .int (xs i))) j = some (t, n, f) := h
    unfold hb_Xa at h
    split at h
    · cases h
      exact ⟨.int, rfl, a0⟩
    · cases h
      exact ⟨.int, rfl, a1⟩
    · cases h
      exact ⟨.long, rfl, a2⟩
    · cases h
      exact ⟨.int, rfl, a3⟩
    · cases h
      exact ⟨.object "java/lang/Object", rfl, a7⟩
    · cases h
      exact ⟨.int, rfl, a9⟩
    · cases h
      exact ⟨.byte, rfl, (had 0 _ rfl).2.2.2.2⟩
    · cases h
      exact ⟨.byte, rfl, (had 1 _ rfl).2.2.2.2⟩
    · cases h
      exact ⟨.byte, rfl, (had 2 _ rfl).2.2.2.2⟩
    · cases h
      exact ⟨.byte, rfl, (had 3 _ rfl).2.2.2.2⟩
    · cases h
      exact ⟨.byte, rfl, (had 4 _ rfl).2.2.2.2⟩
    · cases h
      exact ⟨.byte, rfl, (had 5 _ rfl).2.2.2.2⟩
    · cases h
      exact ⟨.byte, rfl, (had 6 _ rfl).2.2.2.2⟩
    · cases h
      exact ⟨.byte, rfl, (had 7 _ rfl).2.2.2.2⟩
    · cases h
      exact ⟨.byte, rfl, (had 8 _ rfl).2.2.2.2⟩
    · cases h
      exact ⟨.byte, rfl, (had 9 _ rfl).2.2.2.2⟩
    · cases h
      exact ⟨.byte, rfl, (had 10 _ rfl).2.2.2.2⟩
    · cases h
      exact ⟨.byte, rfl, (had 11 _ rfl).2.2.2.2⟩
    · cases h
      exact ⟨.byte, rfl, (had 12 _ rfl).2.2.2.2⟩
    · cases h
      exact ⟨.byte, rfl, (had 13 _ rfl).2.2.2.2⟩
    · cases h
      exact ⟨.byte, rfl, (had 14 _ rfl).2.2.2.2⟩
    · cases h
      exact ⟨.byte, rfl, (had 15 _ rfl).2.2.2.2⟩
    · cases h
      exact ⟨.byte, rfl, (had 16 _ rfl).2.2.2.2⟩
    · cases h
      exact ⟨.byte, rfl, (had 17 _ rfl).2.2.2.2⟩
    · cases h
      exact ⟨.byte, rfl, (had 18 _ rfl).2.2.2.2⟩
    · cases h
      exact ⟨.byte, rfl, (had 19 _ rfl).2.2.2.2⟩
    · cases h
      exact ⟨.byte, rfl, (had 20 _ rfl).2.2.2.2⟩
    · cases h
      exact ⟨.byte, rfl, (had 21 _ rfl).2.2.2.2⟩
    · cases h
      exact ⟨.byte, rfl, (had 22 _ rfl).2.2.2.2⟩
    · cases h
      exact ⟨.byte, rfl, (had 23 _ rfl).2.2.2.2⟩
    · cases h
      exact ⟨.byte, rfl, (had 24 _ rfl).2.2.2.2⟩
    · cases h
      exact ⟨.byte, rfl, (had 25 _ rfl).2.2.2.2⟩
    · cases h
      exact ⟨.byte, rfl, (had 26 _ rfl).2.2.2.2⟩
    · cases h
      exact ⟨.byte, rfl, (had 27 _ rfl).2.2.2.2⟩
    · cases h
      exact ⟨.byte, rfl, (had 28 _ rfl).2.2.2.2⟩
    · cases h
      exact ⟨.byte, rfl, (had 29 _ rfl).2.2.2.2⟩
    · cases h
      exact ⟨.byte, rfl, (had 30 _ rfl).2.2.2.2⟩
    · cases h
      exact ⟨.byte, rfl, (had 31 _ rfl).2.2.2.2⟩
    · cases h
      exact ⟨.byte, rfl, (had 32 _ rfl).2.2.2.2⟩
    · cases h
      exact ⟨.byte, rfl, (had 33 _ rfl).2.2.2.2⟩
    · cases h
      exact ⟨.byte, rfl, (had 34 _ rfl).2.2.2.2⟩
    · cases h
      exact ⟨.byte, rfl, (had 35 _ rfl).2.2.2.2⟩
    · cases h
      exact ⟨.byte, rfl, (had 36 _ rfl).2.2.2.2⟩
    · cases h
      exact ⟨.byte, rfl, (had 37 _ rfl).2.2.2.2⟩
    · cases h
      exact ⟨.byte, rfl, (had 38 _ rfl).2.2.2.2⟩
    · cases h
      exact ⟨.byte, rfl, (had 39 _ rfl).2.2.2.2⟩
    · cases h
      exact ⟨.byte, rfl, (had 40 _ rfl).2.2.2.2⟩
    · cases h
      exact ⟨.byte, rfl, (had 41 _ rfl).2.2.2.2⟩
    · cases h
      exact ⟨.byte, rfl, (had 42 _ rfl).2.2.2.2⟩
    · cases h
  · have e := hb_own ho
    subst e
    have h : hb_Xk q ix = some j := h
    unfold hb_Xk at h
    split at h
    · cases h
      exact Or.inl ⟨"Any", vk_R.of (hts _ (hs_w1 218 (by decide +kernel))) (had 0 _ rfl).1⟩
    · cases h
      exact Or.inl ⟨"Int", vk_R.of (hts _ (hs_w2 45 (by decide +kernel))) (had 1 _ rfl).1⟩
    · cases h
      exact Or.inl ⟨"Fault", vk_R.of (hts _ (hs_w2 46 (by decide +kernel))) (had 2 _ rfl).1⟩
    · cases h
      exact Or.inl ⟨"kind bare call layer method around before behind in if and or not is best sum all any least left each near let then else with without do try on fail show next", vk_R.of (hts _ (hs_w4 185 (by decide +kernel))) (had 3 _ rfl).1⟩
    · cases h
      exact Or.inl ⟨"(),;:+-*/#=<", vk_R.of (hts _ (hs_w4 193 (by decide +kernel))) (had 4 _ rfl).1⟩
    · cases h
      exact Or.inl ⟨"", vk_R.of (hts _ (hs_w8 157 (by decide +kernel))) (had 5 _ rfl).1⟩
    · cases h
      exact Or.inl ⟨"Any", vk_R.of (hts _ (hs_w9 99 (by decide +kernel))) (had 6 _ rfl).1⟩
    · cases h
      exact Or.inl ⟨"Int", vk_R.of (hts _ (hs_w9 122 (by decide +kernel))) (had 7 _ rfl).1⟩
    · cases h
      exact Or.inl ⟨"Fault", vk_R.of (hts _ (hs_w9 123 (by decide +kernel))) (had 8 _ rfl).1⟩
    · cases h
      exact Or.inl ⟨"around", vk_R.of (hts _ (hs_w11 53 (by decide +kernel))) (had 9 _ rfl).1⟩
    · cases h
      exact Or.inl ⟨"and", vk_R.of (hts _ (hs_w11 60 (by decide +kernel))) (had 10 _ rfl).1⟩
    · cases h
      exact Or.inl ⟨"all", vk_R.of (hts _ (hs_w11 61 (by decide +kernel))) (had 11 _ rfl).1⟩
    · cases h
      exact Or.inl ⟨"any", vk_R.of (hts _ (hs_w11 62 (by decide +kernel))) (had 12 _ rfl).1⟩
    · cases h
      exact Or.inl ⟨"bare", vk_R.of (hts _ (hs_w11 63 (by decide +kernel))) (had 13 _ rfl).1⟩
    · cases h
      exact Or.inl ⟨"before", vk_R.of (hts _ (hs_w11 64 (by decide +kernel))) (had 14 _ rfl).1⟩
    · cases h
      exact Or.inl ⟨"behind", vk_R.of (hts _ (hs_w11 65 (by decide +kernel))) (had 15 _ rfl).1⟩
    · cases h
      exact Or.inl ⟨"best", vk_R.of (hts _ (hs_w11 66 (by decide +kernel))) (had 16 _ rfl).1⟩
    · cases h
      exact Or.inl ⟨"call", vk_R.of (hts _ (hs_w11 67 (by decide +kernel))) (had 17 _ rfl).1⟩
    · cases h
      exact Or.inl ⟨"do", vk_R.of (hts _ (hs_w11 68 (by decide +kernel))) (had 18 _ rfl).1⟩
    · cases h
      exact Or.inl ⟨"each", vk_R.of (hts _ (hs_w11 69 (by decide +kernel))) (had 19 _ rfl).1⟩
    · cases h
      exact Or.inl ⟨"else", vk_R.of (hts _ (hs_w11 70 (by decide +kernel))) (had 20 _ rfl).1⟩
    · cases h
      exact Or.inl ⟨"fail", vk_R.of (hts _ (hs_w11 71 (by decide +kernel))) (had 21 _ rfl).1⟩
    · cases h
      exact Or.inl ⟨"in", vk_R.of (hts _ (hs_w11 72 (by decide +kernel))) (had 22 _ rfl).1⟩
    · cases h
      exact Or.inl ⟨"if", vk_R.of (hts _ (hs_w11 73 (by decide +kernel))) (had 23 _ rfl).1⟩
    · cases h
      exact Or.inl ⟨"is", vk_R.of (hts _ (hs_w11 74 (by decide +kernel))) (had 24 _ rfl).1⟩
    · cases h
      exact Or.inl ⟨"kind", vk_R.of (hts _ (hs_w11 75 (by decide +kernel))) (had 25 _ rfl).1⟩
    · cases h
      exact Or.inl ⟨"layer", vk_R.of (hts _ (hs_w11 76 (by decide +kernel))) (had 26 _ rfl).1⟩
    · cases h
      exact Or.inl ⟨"least", vk_R.of (hts _ (hs_w11 77 (by decide +kernel))) (had 27 _ rfl).1⟩
    · cases h
      exact Or.inl ⟨"left", vk_R.of (hts _ (hs_w11 78 (by decide +kernel))) (had 28 _ rfl).1⟩
    · cases h
      exact Or.inl ⟨"let", vk_R.of (hts _ (hs_w11 79 (by decide +kernel))) (had 29 _ rfl).1⟩
    · cases h
      exact Or.inl ⟨"method", vk_R.of (hts _ (hs_w11 80 (by decide +kernel))) (had 30 _ rfl).1⟩
    · cases h
      exact Or.inl ⟨"not", vk_R.of (hts _ (hs_w11 81 (by decide +kernel))) (had 31 _ rfl).1⟩
    · cases h
      exact Or.inl ⟨"near", vk_R.of (hts _ (hs_w11 82 (by decide +kernel))) (had 32 _ rfl).1⟩
    · cases h
      exact Or.inl ⟨"next", vk_R.of (hts _ (hs_w11 83 (by decide +kernel))) (had 33 _ rfl).1⟩
    · cases h
      exact Or.inl ⟨"or", vk_R.of (hts _ (hs_w11 84 (by decide +kernel))) (had 34 _ rfl).1⟩
    · cases h
      exact Or.inl ⟨"on", vk_R.of (hts _ (hs_w11 85 (by decide +kernel))) (had 35 _ rfl).1⟩
    · cases h
      exact Or.inl ⟨"sum", vk_R.of (hts _ (hs_w11 86 (by decide +kernel))) (had 36 _ rfl).1⟩
    · cases h
      exact Or.inl ⟨"show", vk_R.of (hts _ (hs_w11 87 (by decide +kernel))) (had 37 _ rfl).1⟩
    · cases h
      exact Or.inl ⟨"then", vk_R.of (hts _ (hs_w11 88 (by decide +kernel))) (had 38 _ rfl).1⟩
    · cases h
      exact Or.inl ⟨"try", vk_R.of (hts _ (hs_w11 89 (by decide +kernel))) (had 39 _ rfl).1⟩
    · cases h
      exact Or.inl ⟨"with", vk_R.of (hts _ (hs_w11 90 (by decide +kernel))) (had 40 _ rfl).1⟩
    · cases h
      exact Or.inl ⟨"without", vk_R.of (hts _ (hs_w11 91 (by decide +kernel))) (had 41 _ rfl).1⟩
    · cases h
      exact Or.inl ⟨"(),;:=<+-*/#", vk_R.of (hts _ (hs_w11 97 (by decide +kernel))) (had 42 _ rfl).1⟩
    · cases h
      exact Or.inr ⟨rfl, _, hb_w12 110 (by decide +kernel), hM8⟩
    · cases h
  · obtain ⟨host, h1⟩ := hs_nest ho ix y na ci M' h hM'
    exact ⟨host, va_Nw.of rfl (hts _ h1)⟩
  · have h : hb_Xt j = true := h
    have h := of_decide_eq_true h
    obtain ⟨q2, hq2⟩ := hs_lt (i := (j - 100) / 2) (by omega)
    have e : (hs_B s lo ad).2 j = (ad ((j - 100) / 2)).1 := by
      show (if 100 ≤ j then (if j % 2 = 0 then (ad ((j - 100) / 2)).1 else _) else _) = _
      rw [if_pos h.1, if_pos h.2.2]
    rw [e]
    exact (had _ _ hq2).2.1
  · have e := hb_own ho
    subst e
    have h : hb_xA q ix = some k := h
    unfold hb_xA at h
    split at h
    · cases h
      exact ⟨by decide, "java/lang/Object", rfl, (hb_w12 112 (by decide +kernel)), va_AO.of (hts _ (hs_w12 111 (by decide +kernel)))⟩
    · cases h
      exact ⟨by decide, "java/lang/Object", rfl, (hb_w12 114 (by decide +kernel)), va_AO.of (hts _ (hs_w12 111 (by decide +kernel)))⟩
    · cases h
      exact ⟨by decide, "DispatchHouseModel$Name", rfl, (hb_w8 113 (by decide +kernel)), va_AO.of (hts _ (hs_w8 114 (by decide +kernel)))⟩
    · cases h
      exact ⟨by decide, "DispatchHouseModel$Kind", rfl, (hb_w8 107 (by decide +kernel)), va_AO.of (hts _ (hs_w8 108 (by decide +kernel)))⟩
    · cases h
      exact ⟨by decide, "DispatchHouseModel$Call", rfl, (hb_w8 109 (by decide +kernel)), va_AO.of (hts _ (hs_w8 110 (by decide +kernel)))⟩
    · cases h
      exact ⟨by decide, "DispatchHouseModel$Method", rfl, (hb_w8 111 (by decide +kernel)), va_AO.of (hts _ (hs_w8 112 (by decide +kernel)))⟩
    · cases h
      exact ⟨by decide, "DispatchHouseModel$Choice", rfl, (hb_w9 32 (by decide +kernel)), va_AO.of (hts _ (hs_w9 33 (by decide +kernel)))⟩
    · cases h
  · have e := hb_own ho
    subst e
    have h : hb_xM q ix = some ks := h
    have ars := hs_Ars hts
    have c1 : ∀ k k' : Nat, k < 15 → k' < 15 → ∀ t : FieldType, hs_ty k = .array t → (FieldType.array t).toString = "[" ++ (hs_ty k').toString → ∃ (kc : Class) (ty : FieldType), s.vm.classes[hs_cA s k]? = some kc ∧ kc.kind = .array (hs_cA s k') ty ∧ ty.isReference = true ∧ componentBytes ty ≤ 8 := by
      intro k k' hk hk' t e1 e2
      obtain ⟨kA, comp, g1, g2, g3, g4⟩ := ars k hk
      obtain ⟨kA', comp', f1, f2, f3, f4⟩ := ars k' hk'
      rw [e1] at g3 g4
      have g4 : s.vm.findClass (FieldType.array t).toString = some comp := g4
      rw [e2, f1] at g4
      cases g4
      exact ⟨kA, .array t, g2, g3, rfl, by show 4 ≤ 8; decide⟩
    have c0 : ∀ k : Nat, k < 4 → ab_ch s.vm (hs_cA s) [k] := by
      intro k hk
      obtain ⟨kA, comp, g1, g2, g3, g4⟩ := ars k (by omega)
      rcases (show k = 0 ∨ k = 1 ∨ k = 2 ∨ k = 3 by omega) with rfl | rfl | rfl | rfl
      · exact ⟨kA, comp, .int, g2, g3, by decide, by decide, by decide, fun B n => hs_d0 B (hs_cA s) n⟩
      · exact ⟨kA, comp, .long, g2, g3, by decide, by decide, by decide, fun B n => hs_d1 B (hs_cA s) n⟩
      · exact ⟨kA, comp, .byte, g2, g3, by decide, by decide, by decide, fun B n => hs_d2 B (hs_cA s) n⟩
      · exact ⟨kA, comp, .boolean, g2, g3, by decide, by decide, by decide, fun B n => hs_d3 B (hs_cA s) n⟩
    unfold hb_xM at h
    split at h
    · cases h
      refine ⟨"[[I", (hb_w9 78 (by decide +kernel)), ?_, ⟨c1 8 0 (by decide) (by decide) .int rfl (by decide +kernel), c0 0 (by decide)⟩⟩
      obtain ⟨kA, comp, g1, -⟩ := ars 8 (by decide)
      exact g1
    · cases h
      refine ⟨"[[I", (hb_w8 176 (by decide +kernel)), ?_, ⟨c1 8 0 (by decide) (by decide) .int rfl (by decide +kernel), c0 0 (by decide)⟩⟩
      obtain ⟨kA, comp, g1, -⟩ := ars 8 (by decide)
      exact g1
    · cases h
      refine ⟨"[[I", (hb_w8 155 (by decide +kernel)), ?_, ⟨c1 8 0 (by decide) (by decide) .int rfl (by decide +kernel), c0 0 (by decide)⟩⟩
      obtain ⟨kA, comp, g1, -⟩ := ars 8 (by decide)
      exact g1
    · cases h
      refine ⟨"[[[[J", (hb_w9 24 (by decide +kernel)), ?_, ⟨c1 9 10 (by decide) (by decide) (.array (.array .long)) rfl (by decide +kernel), ⟨c1 10 11 (by decide) (by decide) (.array .long) rfl (by decide +kernel), ⟨c1 11 1 (by decide) (by decide) .long rfl (by decide +kernel), c0 1 (by decide)⟩⟩⟩⟩
      obtain ⟨kA, comp, g1, -⟩ := ars 9 (by decide)
      exact g1
    · cases h
      refine ⟨"[[Z", (hb_w9 28 (by decide +kernel)), ?_, ⟨c1 12 3 (by decide) (by decide) .boolean rfl (by decide +kernel), c0 3 (by decide)⟩⟩
      obtain ⟨kA, comp, g1, -⟩ := ars 12 (by decide)
      exact g1
    · cases h
      refine ⟨"[[J", (hb_w9 30 (by decide +kernel)), ?_, ⟨c1 11 1 (by decide) (by decide) .long rfl (by decide +kernel), c0 1 (by decide)⟩⟩
      obtain ⟨kA, comp, g1, -⟩ := ars 11 (by decide)
      exact g1
    · cases h
  · have h := of_decide_eq_true (show decide (ci = 21 ∧ k = 14) = true from h)
    obtain ⟨rfl, rfl⟩ := h
    exact ⟨by decide, _, "java/lang/Object", rfl, rfl, va_Nw.of rfl (hts _ (hs_w14 20 (by decide +kernel)))⟩
  · have e := hb_own ho
    subst e
    have h := of_decide_eq_true (show decide ((q, ix, ci) ∈ ([(21, 24, 21)] : List (Nat × Nat × Nat))) = true from h)
    cases List.mem_singleton.mp h
    exact ⟨_, "DispatchHouseModel$Node", rfl, (hb_w11 233 (by decide +kernel)), va_Nw.of rfl (hts _ (hs_w13 233 (by decide +kernel)))⟩
  · have e := hb_own ho
    subst e
    have h := of_decide_eq_true (show decide ((q, ix) ∈ ([(37, 10)] : List (Nat × Nat))) = true from h)
    cases List.mem_singleton.mp h
    exact (hb_w11 111 (by decide +kernel))
  · have h := of_decide_eq_true (show decide (j < 4 ∨ j = 7 ∨ j = 9 ∨ 100 ≤ j ∧ j < 186) = true from h)
    show (hs_B s lo ad).2 j < s.heap.size
    by_cases g : 100 ≤ j
    · have hj : j < 186 := by omega
      have ev : (hs_B s lo ad).2 j = if j % 2 = 0 then (ad ((j - 100) / 2)).1 else (ad ((j - 101) / 2)).2 := if_pos g
      rw [ev]
      split
      · obtain ⟨q2, hq2⟩ := hs_lt (i := (j - 100) / 2) (by omega)
        exact (had _ _ hq2).2.1.lt
      · obtain ⟨q2, hq2⟩ := hs_lt (i := (j - 101) / 2) (by omega)
        exact (had _ _ hq2).2.2.2.2.lt
    · have ev : (hs_B s lo ad).2 j = lo j := if_neg g
      rw [ev]
      rcases (show j = 0 ∨ j = 1 ∨ j = 2 ∨ j = 3 ∨ j = 7 ∨ j = 9 by omega) with rfl | rfl | rfl | rfl | rfl | rfl
      · exact a0.lt
      · exact a1.lt
      · exact a2.lt
      · exact a3.lt
      · exact a7.lt
      · exact a9.lt
  · have h := of_decide_eq_true (show decide ((i = 110 ∨ 118 ≤ i ∧ i < 186 ∧ i % 2 = 0) ∧ (j = 110 ∨ 118 ≤ j ∧ j < 186 ∧ j % 2 = 0) ∧ i ≠ j) = true from h)
    obtain ⟨hi, hj, hij⟩ := h
    have ei : (hs_B s lo ad).2 i = (ad ((i - 100) / 2)).1 := by
      show (if 100 ≤ i then (if i % 2 = 0 then (ad ((i - 100) / 2)).1 else _) else _) = _
      rw [if_pos (by omega), if_pos (by omega)]
    have ej : (hs_B s lo ad).2 j = (ad ((j - 100) / 2)).1 := by
      show (if 100 ≤ j then (if j % 2 = 0 then (ad ((j - 100) / 2)).1 else _) else _) = _
      rw [if_pos (by omega), if_pos (by omega)]
    rw [ei, ej]
    intro hq
    obtain ⟨q2, hq2⟩ := hs_lt (i := (i - 100) / 2) (by omega)
    obtain ⟨q3, hq3⟩ := hs_lt (i := (j - 100) / 2) (by omega)
    exact hs_dif (by omega) (by omega) (by omega) hq2 hq3 (hs_eqS (hs_all _ (List.mem_of_getElem? hq2)).1 (hs_all _ (List.mem_of_getElem? hq3)).1 hq (had _ _ hq2) (had _ _ hq3))
  · have e := hb_own ho
    have e : own = RJ7 := e
    subst e
    have h : hb_T44 ix = some (10, j, na, ci) := h
    unfold hb_T44 at h
    split at h
    · cases h
      exact ⟨rfl, hb_w12 75 (by decide +kernel), hb_w13 235 (by decide +kernel), hb_w12 76 (by decide +kernel), hb_w12 106 (by decide +kernel), va_Dc.of (hts _ (hs_w13 236 (by decide +kernel))), hM8⟩
    · cases h
    · cases h
    · cases h
    · cases h

def hb_F0 (isI : Bool) : ab_FT
  | 11 => some (1, 5, (.array .int), isI)
  | 15 => some (1, 6, (.array .int), isI)
  | 18 => some (1, 7, (.array .int), isI)
  | 21 => some (1, 8, (.array .boolean), isI)
  | 25 => some (1, 9, (.array .int), isI)
  | 28 => some (1, 10, (.array .int), isI)
  | 31 => some (1, 12, (.array .int), isI)
  | 34 => some (1, 13, (.array .int), isI)
  | 37 => some (1, 0, (.object "DispatchHouse$World"), isI)
  | 41 => some (1, 1, (.object "DispatchHouse$Nearness"), isI)
  | 45 => some (1, 2, (.object "DispatchHouse$Lists"), isI)
  | 49 => some (12, 6, (.array .int), false)
  | 60 => some (1, 4, .int, true)
  | 64 => some (1, 3, .int, true)
  | 77 => some (12, 7, (.array .int), false)
  | 94 => some (1, 11, .int, true)
  | 97 => some (12, 1, (.object "DispatchHouse$Methods"), false)
  | 101 => some (6, 3, (.array .int), false)
  | 114 => some (6, 2, (.array .int), false)
  | 117 => some (6, 6, (.array .boolean), false)
  | 120 => some (6, 7, (.array .int), false)
  | 123 => some (6, 8, (.array .int), false)
  | 129 => some (6, 13, (.array .long), false)
  | 133 => some (6, 10, (.array .int), false)
  | 136 => some (6, 11, (.array .int), false)
  | 139 => some (6, 9, (.array .int), false)
  | 142 => some (12, 0, (.object "DispatchHouse$Kinds"), false)
  | 152 => some (6, 12, (.array .long), false)
  | _ => none
theorem hb_F0_ok (isI : Bool) : ab_Fd RX0 isI hb_TB vwCl (hb_F0 isI) := by
  intro ix ci k ty ok h
  unfold hb_F0 at h
  split at h
  · cases h
    exact ⟨RX0, TX0, 14, tyX0, rfl, by decide, hb_inX0, (hb_w 894 (by decide +kernel)), tyX0_ok, nmX0, rfl, fun h => Or.inr ⟨rfl, h, rfl⟩⟩
  · cases h
    exact ⟨RX0, TX0, 14, tyX0, rfl, by decide, hb_inX0, (hb_w 895 (by decide +kernel)), tyX0_ok, nmX0, rfl, fun h => Or.inr ⟨rfl, h, rfl⟩⟩
  · cases h
    exact ⟨RX0, TX0, 14, tyX0, rfl, by decide, hb_inX0, (hb_w 896 (by decide +kernel)), tyX0_ok, nmX0, rfl, fun h => Or.inr ⟨rfl, h, rfl⟩⟩
  · cases h
    exact ⟨RX0, TX0, 14, tyX0, rfl, by decide, hb_inX0, (hb_w 897 (by decide +kernel)), tyX0_ok, nmX0, rfl, fun h => Or.inr ⟨rfl, h, rfl⟩⟩
  · cases h
    exact ⟨RX0, TX0, 14, tyX0, rfl, by decide, hb_inX0, (hb_w 898 (by decide +kernel)), tyX0_ok, nmX0, rfl, fun h => Or.inr ⟨rfl, h, rfl⟩⟩
  · cases h
    exact ⟨RX0, TX0, 14, tyX0, rfl, by decide, hb_inX0, (hb_w 899 (by decide +kernel)), tyX0_ok, nmX0, rfl, fun h => Or.inr ⟨rfl, h, rfl⟩⟩
  · cases h
    exact ⟨RX0, TX0, 14, tyX0, rfl, by decide, hb_inX0, (hb_w 901 (by decide +kernel)), tyX0_ok, nmX0, rfl, fun h => Or.inr ⟨rfl, h, rfl⟩⟩
  · cases h
    exact ⟨RX0, TX0, 14, tyX0, rfl, by decide, hb_inX0, (hb_w 902 (by decide +kernel)), tyX0_ok, nmX0, rfl, fun h => Or.inr ⟨rfl, h, rfl⟩⟩
  · cases h
    exact ⟨RX0, TX0, 14, tyX0, rfl, by decide, hb_inX0, (hb_w 886 (by decide +kernel)), tyX0_ok, nmX0, rfl, fun h => Or.inr ⟨rfl, h, rfl⟩⟩
  · cases h
    exact ⟨RX0, TX0, 14, tyX0, rfl, by decide, hb_inX0, (hb_w 887 (by decide +kernel)), tyX0_ok, nmX0, rfl, fun h => Or.inr ⟨rfl, h, rfl⟩⟩
  · cases h
    exact ⟨RX0, TX0, 14, tyX0, rfl, by decide, hb_inX0, (hb_w 888 (by decide +kernel)), tyX0_ok, nmX0, rfl, fun h => Or.inr ⟨rfl, h, rfl⟩⟩
  · cases h
    exact ⟨RX11, TX11, 18, tyX11, rfl, by decide, hb_inX11, (hb_w 581 (by decide +kernel)), tyX11_ok, nmX11, rfl, fun h => by cases h⟩
  · cases h
    exact ⟨RX0, TX0, 14, tyX0, rfl, by decide, hb_inX0, (hb_w 892 (by decide +kernel)), tyX0_ok, nmX0, rfl, fun _ => Or.inl rfl⟩
  · cases h
    exact ⟨RX0, TX0, 14, tyX0, rfl, by decide, hb_inX0, (hb_w 890 (by decide +kernel)), tyX0_ok, nmX0, rfl, fun _ => Or.inl rfl⟩
  · cases h
    exact ⟨RX11, TX11, 18, tyX11, rfl, by decide, hb_inX11, (hb_w 585 (by decide +kernel)), tyX11_ok, nmX11, rfl, fun h => by cases h⟩
  · cases h
    exact ⟨RX0, TX0, 14, tyX0, rfl, by decide, hb_inX0, (hb_w 900 (by decide +kernel)), tyX0_ok, nmX0, rfl, fun _ => Or.inl rfl⟩
  · cases h
    exact ⟨RX11, TX11, 18, tyX11, rfl, by decide, hb_inX11, (hb_w 564 (by decide +kernel)), tyX11_ok, nmX11, rfl, fun h => by cases h⟩
  · cases h
    exact ⟨RX5, TX5, 14, tyX5, rfl, by decide, hb_inX5, (hb_w 314 (by decide +kernel)), tyX5_ok, nmX5, rfl, fun h => by cases h⟩
  · cases h
    exact ⟨RX5, TX5, 14, tyX5, rfl, by decide, hb_inX5, (hb_w 309 (by decide +kernel)), tyX5_ok, nmX5, rfl, fun h => by cases h⟩
  · cases h
    exact ⟨RX5, TX5, 14, tyX5, rfl, by decide, hb_inX5, (hb_w 325 (by decide +kernel)), tyX5_ok, nmX5, rfl, fun h => by cases h⟩
  · cases h
    exact ⟨RX5, TX5, 14, tyX5, rfl, by decide, hb_inX5, (hb_w 329 (by decide +kernel)), tyX5_ok, nmX5, rfl, fun h => by cases h⟩
  · cases h
    exact ⟨RX5, TX5, 14, tyX5, rfl, by decide, hb_inX5, (hb_w 334 (by decide +kernel)), tyX5_ok, nmX5, rfl, fun h => by cases h⟩
  · cases h
    exact ⟨RX5, TX5, 14, tyX5, rfl, by decide, hb_inX5, (hb_w 352 (by decide +kernel)), tyX5_ok, nmX5, rfl, fun h => by cases h⟩
  · cases h
    exact ⟨RX5, TX5, 14, tyX5, rfl, by decide, hb_inX5, (hb_w 342 (by decide +kernel)), tyX5_ok, nmX5, rfl, fun h => by cases h⟩
  · cases h
    exact ⟨RX5, TX5, 14, tyX5, rfl, by decide, hb_inX5, (hb_w 346 (by decide +kernel)), tyX5_ok, nmX5, rfl, fun h => by cases h⟩
  · cases h
    exact ⟨RX5, TX5, 14, tyX5, rfl, by decide, hb_inX5, (hb_w 338 (by decide +kernel)), tyX5_ok, nmX5, rfl, fun h => by cases h⟩
  · cases h
    exact ⟨RX11, TX11, 18, tyX11, rfl, by decide, hb_inX11, (hb_w 556 (by decide +kernel)), tyX11_ok, nmX11, rfl, fun h => by cases h⟩
  · cases h
    exact ⟨RX5, TX5, 14, tyX5, rfl, by decide, hb_inX5, (hb_w 349 (by decide +kernel)), tyX5_ok, nmX5, rfl, fun h => by cases h⟩
  · cases h
def hb_C0 : ab_CT
  | _ => none
theorem hb_C0_ok : ab_Cd RX0 hb_TB vwCl hb_C0 := by
  intro ix ci fs h
  unfold hb_C0 at h
  split at h
  · cases h
def hb_I0 : Nat → Option Int32
  | _ => none
theorem hb_I0_ok : ∀ ix v, hb_I0 ix = some v → Cond.constant RX0 ix v ∈ hb_TB := by
  intro ix v h
  unfold hb_I0 at h
  split at h
  · cases h
def hb_L0 : Nat → Option Int64
  | 80 => some (15)
  | _ => none
theorem hb_L0_ok : ∀ ix v, hb_L0 ix = some v → Cond.constantLong RX0 ix v ∈ hb_TB := by
  intro ix v h
  unfold hb_L0 at h
  split at h
  · cases h
    exact (hb_w 1802 (by decide +kernel))
  · cases h
def hb_T0 : Nat → Option (Nat × Nat × Nat × Nat)
  | 3 => some (4, 0, 0, 0)
  | 54 => some (1, 1025, 1, 0)
  | 67 => some (0, 773, 3, 4)
  | 73 => some (0, 5, 3, 1)
  | 82 => some (0, 9, 2, 1)
  | 86 => some (0, 10, 3, 1)
  | 90 => some (0, 2828, 3, 12)
  | 106 => some (1, 6, 2, 0)
  | 110 => some (0, 7, 2, 1)
  | 126 => some (0, 8, 2, 1)
  | 146 => some (0, 513, 2, 3)
  | 155 => some (0, 1538, 3, 7)
  | 160 => some (0, 11, 2, 1)
  | _ => none
def hb_M0 : Nat → Option ab_MI
  | 0 => some (0, yX0_init, cX0_init, 4, none, true)
  | 1 => some (0, yX0_rowSize, cX0_rowSize, 3, (some .int), false)
  | 2 => some (0, yX0_endsWithSeveral, cX0_endsWithSeveral, 3, (some .boolean), false)
  | 3 => some (0, yX0_inRow, cX0_inRow, 4, (some .int), false)
  | 4 => some (0, yX0_choose, cX0_choose, 17, (some .boolean), false)
  | 5 => some (0, yX0_gatherApplying, cX0_gatherApplying, 9, (some .boolean), false)
  | 6 => some (0, yX0_isOn, cX0_isOn, 4, (some .boolean), false)
  | 7 => some (0, yX0_takes, cX0_takes, 6, (some .boolean), false)
  | 8 => some (0, yX0_holds, cX0_holds, 8, (some .boolean), false)
  | 9 => some (0, yX0_gatherGroup, cX0_gatherGroup, 6, (some .int), false)
  | 10 => some (0, yX0_layGroup, cX0_layGroup, 7, (some .int), false)
  | 11 => some (0, yX0_pickNext, cX0_pickNext, 7, (some .int), false)
  | _ => none
def hb_F1 (isI : Bool) : ab_FT
  | 11 => some (2, 0, (.array .int), true)
  | 15 => some (2, 1, (.array .int), true)
  | 18 => some (2, 2, (.array .int), true)
  | 21 => some (2, 3, .int, true)
  | 25 => some (2, 4, .int, true)
  | _ => none
theorem hb_F1_ok (isI : Bool) : ab_Fd RX1 isI hb_TB vwCl (hb_F1 isI) := by
  intro ix ci k ty ok h
  unfold hb_F1 at h
  split at h
  · cases h
    exact ⟨RX1, TX1, 5, tyX1, rfl, by decide, hb_inX1, (hb_w 390 (by decide +kernel)), tyX1_ok, nmX1, rfl, fun _ => Or.inl rfl⟩
  · cases h
    exact ⟨RX1, TX1, 5, tyX1, rfl, by decide, hb_inX1, (hb_w 392 (by decide +kernel)), tyX1_ok, nmX1, rfl, fun _ => Or.inl rfl⟩
  · cases h
    exact ⟨RX1, TX1, 5, tyX1, rfl, by decide, hb_inX1, (hb_w 394 (by decide +kernel)), tyX1_ok, nmX1, rfl, fun _ => Or.inl rfl⟩
  · cases h
    exact ⟨RX1, TX1, 5, tyX1, rfl, by decide, hb_inX1, (hb_w 397 (by decide +kernel)), tyX1_ok, nmX1, rfl, fun _ => Or.inl rfl⟩
  · cases h
    exact ⟨RX1, TX1, 5, tyX1, rfl, by decide, hb_inX1, (hb_w 400 (by decide +kernel)), tyX1_ok, nmX1, rfl, fun _ => Or.inl rfl⟩
  · cases h
def hb_C1 : ab_CT
  | _ => none
theorem hb_C1_ok : ab_Cd RX1 hb_TB vwCl hb_C1 := by
  intro ix ci fs h
  unfold hb_C1 at h
  split at h
  · cases h
def hb_I1 : Nat → Option Int32
  | _ => none
theorem hb_I1_ok : ∀ ix v, hb_I1 ix = some v → Cond.constant RX1 ix v ∈ hb_TB := by
  intro ix v h
  unfold hb_I1 at h
  split at h
  · cases h
def hb_L1 : Nat → Option Int64
  | _ => none
theorem hb_L1_ok : ∀ ix v, hb_L1 ix = some v → Cond.constantLong RX1 ix v ∈ hb_TB := by
  intro ix v h
  unfold hb_L1 at h
  split at h
  · cases h
def hb_T1 : Nat → Option (Nat × Nat × Nat × Nat)
  | 5 => some (4, 0, 0, 0)
  | 28 => some (1, 9216, 2, 0)
  | 34 => some (1, 11269, 2, 0)
  | _ => none
def hb_M1 : Nat → Option ab_MI
  | 0 => some (1, yX1_init, cX1_init, 1, none, true)
  | 1 => some (1, yX1_open, cX1_open, 3, none, false)
  | 2 => some (1, yX1_emit, cX1_emit, 3, none, false)
  | 3 => some (1, yX1_aim, cX1_aim, 3, none, false)
  | _ => none
def hb_F2 (isI : Bool) : ab_FT
  | 9 => some (3, 0, (.array .boolean), isI)
  | 15 => some (3, 1, (.array .int), isI)
  | 19 => some (3, 2, (.array .int), isI)
  | 22 => some (3, 3, (.array .int), isI)
  | 25 => some (3, 5, (.array .int), isI)
  | 28 => some (3, 6, (.array .int), isI)
  | 31 => some (3, 7, (.array .int), isI)
  | 34 => some (3, 4, .int, true)
  | _ => none
theorem hb_F2_ok (isI : Bool) : ab_Fd RX2 isI hb_TB vwCl (hb_F2 isI) := by
  intro ix ci k ty ok h
  unfold hb_F2 at h
  split at h
  · cases h
    exact ⟨RX2, TX2, 8, tyX2, rfl, by decide, hb_inX2, (hb_w 261 (by decide +kernel)), tyX2_ok, nmX2, rfl, fun h => Or.inr ⟨rfl, h, rfl⟩⟩
  · cases h
    exact ⟨RX2, TX2, 8, tyX2, rfl, by decide, hb_inX2, (hb_w 264 (by decide +kernel)), tyX2_ok, nmX2, rfl, fun h => Or.inr ⟨rfl, h, rfl⟩⟩
  · cases h
    exact ⟨RX2, TX2, 8, tyX2, rfl, by decide, hb_inX2, (hb_w 265 (by decide +kernel)), tyX2_ok, nmX2, rfl, fun h => Or.inr ⟨rfl, h, rfl⟩⟩
  · cases h
    exact ⟨RX2, TX2, 8, tyX2, rfl, by decide, hb_inX2, (hb_w 267 (by decide +kernel)), tyX2_ok, nmX2, rfl, fun h => Or.inr ⟨rfl, h, rfl⟩⟩
  · cases h
    exact ⟨RX2, TX2, 8, tyX2, rfl, by decide, hb_inX2, (hb_w 270 (by decide +kernel)), tyX2_ok, nmX2, rfl, fun h => Or.inr ⟨rfl, h, rfl⟩⟩
  · cases h
    exact ⟨RX2, TX2, 8, tyX2, rfl, by decide, hb_inX2, (hb_w 271 (by decide +kernel)), tyX2_ok, nmX2, rfl, fun h => Or.inr ⟨rfl, h, rfl⟩⟩
  · cases h
    exact ⟨RX2, TX2, 8, tyX2, rfl, by decide, hb_inX2, (hb_w 272 (by decide +kernel)), tyX2_ok, nmX2, rfl, fun h => Or.inr ⟨rfl, h, rfl⟩⟩
  · cases h
    exact ⟨RX2, TX2, 8, tyX2, rfl, by decide, hb_inX2, (hb_w 268 (by decide +kernel)), tyX2_ok, nmX2, rfl, fun _ => Or.inl rfl⟩
  · cases h
def hb_C2 : ab_CT
  | _ => none
theorem hb_C2_ok : ab_Cd RX2 hb_TB vwCl hb_C2 := by
  intro ix ci fs h
  unfold hb_C2 at h
  split at h
  · cases h
def hb_I2 : Nat → Option Int32
  | _ => none
theorem hb_I2_ok : ∀ ix v, hb_I2 ix = some v → Cond.constant RX2 ix v ∈ hb_TB := by
  intro ix v h
  unfold hb_I2 at h
  split at h
  · cases h
def hb_L2 : Nat → Option Int64
  | _ => none
theorem hb_L2_ok : ∀ ix v, hb_L2 ix = some v → Cond.constantLong RX2 ix v ∈ hb_TB := by
  intro ix v h
  unfold hb_L2 at h
  split at h
  · cases h
def hb_T2 : Nat → Option (Nat × Nat × Nat × Nat)
  | 3 => some (4, 0, 0, 0)
  | 38 => some (1, 8450, 1, 0)
  | 44 => some (0, 520, 1, 3)
  | 48 => some (0, 525, 1, 3)
  | 52 => some (0, 526, 1, 3)
  | 55 => some (0, 514, 3, 3)
  | 59 => some (1, 11265, 2, 0)
  | 65 => some (0, 519, 4, 3)
  | 69 => some (0, 523, 0, 3)
  | 73 => some (0, 521, 1, 3)
  | 76 => some (0, 522, 2, 3)
  | 80 => some (0, 524, 1, 3)
  | _ => none
def hb_M2 : Nat → Option ab_MI
  | 0 => some (2, yX2_init, cX2_init, 1, none, true)
  | 1 => some (2, yX2_isBelow, cX2_isBelow, 3, (some .boolean), false)
  | 2 => some (2, yX2_inRow, cX2_inRow, 4, (some .int), false)
  | 3 => some (2, yX2_spotInRow, cX2_spotInRow, 4, (some .int), false)
  | 4 => some (2, yX2_isParent, cX2_isParent, 3, (some .boolean), false)
  | 5 => some (2, yX2_addParent, cX2_addParent, 2, none, false)
  | 6 => some (2, yX2_make, cX2_make, 5, (some .boolean), false)
  | 7 => some (2, yX2_putInRow, cX2_putInRow, 5, none, false)
  | 8 => some (2, yX2_merge, cX2_merge, 5, (some .boolean), false)
  | 9 => some (2, yX2_listLength, cX2_listLength, 2, (some .int), false)
  | 10 => some (2, yX2_inList, cX2_inList, 3, (some .int), false)
  | 11 => some (2, yX2_firstFreeHead, cX2_firstFreeHead, 3, (some .int), false)
  | 12 => some (2, yX2_isBehindAHead, cX2_isBehindAHead, 4, (some .boolean), false)
  | 13 => some (2, yX2_joinByFirst, cX2_joinByFirst, 7, none, false)
  | 14 => some (2, yX2_joinByLast, cX2_joinByLast, 7, none, false)
  | _ => none
def hb_F3 (isI : Bool) : ab_FT
  | 9 => some (4, 1, (.array .int), isI)
  | 15 => some (4, 2, (.array .long), isI)
  | 19 => some (4, 3, (.array .long), isI)
  | 22 => some (4, 4, (.array .long), isI)
  | 25 => some (4, 5, (.array .long), isI)
  | 28 => some (4, 6, (.array .int), isI)
  | 31 => some (4, 7, (.array .int), isI)
  | 34 => some (4, 8, (.array .long), true)
  | 37 => some (4, 9, (.array .long), true)
  | 40 => some (4, 10, (.array .int), true)
  | 43 => some (4, 0, (.object "DispatchHouse$World"), isI)
  | 51 => some (12, 6, (.array .int), false)
  | 60 => some (12, 14, .int, true)
  | 67 => some (12, 13, (.array .int), false)
  | 73 => some (12, 11, (.array .long), false)
  | 76 => some (12, 12, (.array .long), false)
  | 83 => some (4, 12, .int, true)
  | 103 => some (12, 16, .int, true)
  | 116 => some (12, 9, (.array .long), false)
  | 119 => some (12, 10, (.array .long), false)
  | 122 => some (4, 11, .int, true)
  | _ => none
theorem hb_F3_ok (isI : Bool) : ab_Fd RX3 isI hb_TB vwCl (hb_F3 isI) := by
  intro ix ci k ty ok h
  unfold hb_F3 at h
  split at h
  · cases h
    exact ⟨RX3, TX3, 13, tyX3, rfl, by decide, hb_inX3, (hb_w 793 (by decide +kernel)), tyX3_ok, nmX3, rfl, fun h => Or.inr ⟨rfl, h, rfl⟩⟩
  · cases h
    exact ⟨RX3, TX3, 13, tyX3, rfl, by decide, hb_inX3, (hb_w 794 (by decide +kernel)), tyX3_ok, nmX3, rfl, fun h => Or.inr ⟨rfl, h, rfl⟩⟩
  · cases h
    exact ⟨RX3, TX3, 13, tyX3, rfl, by decide, hb_inX3, (hb_w 795 (by decide +kernel)), tyX3_ok, nmX3, rfl, fun h => Or.inr ⟨rfl, h, rfl⟩⟩
  · cases h
    exact ⟨RX3, TX3, 13, tyX3, rfl, by decide, hb_inX3, (hb_w 796 (by decide +kernel)), tyX3_ok, nmX3, rfl, fun h => Or.inr ⟨rfl, h, rfl⟩⟩
  · cases h
    exact ⟨RX3, TX3, 13, tyX3, rfl, by decide, hb_inX3, (hb_w 797 (by decide +kernel)), tyX3_ok, nmX3, rfl, fun h => Or.inr ⟨rfl, h, rfl⟩⟩
  · cases h
    exact ⟨RX3, TX3, 13, tyX3, rfl, by decide, hb_inX3, (hb_w 798 (by decide +kernel)), tyX3_ok, nmX3, rfl, fun h => Or.inr ⟨rfl, h, rfl⟩⟩
  · cases h
    exact ⟨RX3, TX3, 13, tyX3, rfl, by decide, hb_inX3, (hb_w 799 (by decide +kernel)), tyX3_ok, nmX3, rfl, fun h => Or.inr ⟨rfl, h, rfl⟩⟩
  · cases h
    exact ⟨RX3, TX3, 13, tyX3, rfl, by decide, hb_inX3, (hb_w 800 (by decide +kernel)), tyX3_ok, nmX3, rfl, fun _ => Or.inl rfl⟩
  · cases h
    exact ⟨RX3, TX3, 13, tyX3, rfl, by decide, hb_inX3, (hb_w 801 (by decide +kernel)), tyX3_ok, nmX3, rfl, fun _ => Or.inl rfl⟩
  · cases h
    exact ⟨RX3, TX3, 13, tyX3, rfl, by decide, hb_inX3, (hb_w 802 (by decide +kernel)), tyX3_ok, nmX3, rfl, fun _ => Or.inl rfl⟩
  · cases h
    exact ⟨RX3, TX3, 13, tyX3, rfl, by decide, hb_inX3, (hb_w 792 (by decide +kernel)), tyX3_ok, nmX3, rfl, fun h => Or.inr ⟨rfl, h, rfl⟩⟩
  · cases h
    exact ⟨RX11, TX11, 18, tyX11, rfl, by decide, hb_inX11, (hb_w 577 (by decide +kernel)), tyX11_ok, nmX11, rfl, fun h => by cases h⟩
  · cases h
    exact ⟨RX11, TX11, 18, tyX11, rfl, by decide, hb_inX11, (hb_w 604 (by decide +kernel)), tyX11_ok, nmX11, rfl, fun _ => Or.inl rfl⟩
  · cases h
    exact ⟨RX11, TX11, 18, tyX11, rfl, by decide, hb_inX11, (hb_w 602 (by decide +kernel)), tyX11_ok, nmX11, rfl, fun h => by cases h⟩
  · cases h
    exact ⟨RX11, TX11, 18, tyX11, rfl, by decide, hb_inX11, (hb_w 597 (by decide +kernel)), tyX11_ok, nmX11, rfl, fun h => by cases h⟩
  · cases h
    exact ⟨RX11, TX11, 18, tyX11, rfl, by decide, hb_inX11, (hb_w 599 (by decide +kernel)), tyX11_ok, nmX11, rfl, fun h => by cases h⟩
  · cases h
    exact ⟨RX3, TX3, 13, tyX3, rfl, by decide, hb_inX3, (hb_w 804 (by decide +kernel)), tyX3_ok, nmX3, rfl, fun _ => Or.inl rfl⟩
  · cases h
    exact ⟨RX11, TX11, 18, tyX11, rfl, by decide, hb_inX11, (hb_w 610 (by decide +kernel)), tyX11_ok, nmX11, rfl, fun _ => Or.inl rfl⟩
  · cases h
    exact ⟨RX11, TX11, 18, tyX11, rfl, by decide, hb_inX11, (hb_w 593 (by decide +kernel)), tyX11_ok, nmX11, rfl, fun h => by cases h⟩
  · cases h
    exact ⟨RX11, TX11, 18, tyX11, rfl, by decide, hb_inX11, (hb_w 595 (by decide +kernel)), tyX11_ok, nmX11, rfl, fun h => by cases h⟩
  · cases h
    exact ⟨RX3, TX3, 13, tyX3, rfl, by decide, hb_inX3, (hb_w 803 (by decide +kernel)), tyX3_ok, nmX3, rfl, fun _ => Or.inl rfl⟩
  · cases h
def hb_C3 : ab_CT
  | _ => none
theorem hb_C3_ok : ab_Cd RX3 hb_TB vwCl hb_C3 := by
  intro ix ci fs h
  unfold hb_C3 at h
  split at h
  · cases h
def hb_I3 : Nat → Option Int32
  | 111 => some (2147483647)
  | _ => none
theorem hb_I3_ok : ∀ ix v, hb_I3 ix = some v → Cond.constant RX3 ix v ∈ hb_TB := by
  intro ix v h
  unfold hb_I3 at h
  split at h
  · cases h
    exact (hb_w 1647 (by decide +kernel))
  · cases h
def hb_L3 : Nat → Option Int64
  | 101 => some (-1)
  | 129 => some (-7046029254386353131)
  | 131 => some (-4417276706812531889)
  | _ => none
theorem hb_L3_ok : ∀ ix v, hb_L3 ix = some v → Cond.constantLong RX3 ix v ∈ hb_TB := by
  intro ix v h
  unfold hb_L3 at h
  split at h
  · cases h
    exact (hb_w 1646 (by decide +kernel))
  · cases h
    exact (hb_w 1673 (by decide +kernel))
  · cases h
    exact (hb_w 1674 (by decide +kernel))
  · cases h
def hb_T3 : Nat → Option (Nat × Nat × Nat × Nat)
  | 3 => some (4, 0, 0, 0)
  | 47 => some (0, 776, 1, 4)
  | 56 => some (0, 779, 3, 4)
  | 64 => some (0, 780, 0, 4)
  | 70 => some (0, 783, 0, 4)
  | 79 => some (0, 781, 2, 4)
  | 86 => some (0, 2827, 1, 12)
  | 90 => some (0, 774, 2, 4)
  | 97 => some (0, 775, 4, 4)
  | 106 => some (0, 778, 1, 4)
  | 112 => some (1, 777, 2, 0)
  | 125 => some (0, 782, 2, 4)
  | _ => none
def hb_M3 : Nat → Option ab_MI
  | 0 => some (3, yX3_init, cX3_init, 2, none, true)
  | 1 => some (3, yX3_countLists, cX3_countLists, 2, (some .int), false)
  | 2 => some (3, yX3_countCells, cX3_countCells, 4, (some .int), false)
  | 3 => some (3, yX3_countPressed, cX3_countPressed, 6, (some .int), false)
  | 4 => some (3, yX3_countNodes, cX3_countNodes, 2, (some .int), false)
  | 5 => some (3, yX3_looksFor, cX3_looksFor, 4, (some .int), false)
  | 6 => some (3, yX3_looksInTree, cX3_looksInTree, 10, (some .int), false)
  | 7 => some (3, yX3_matters, cX3_matters, 8, (some .boolean), false)
  | 8 => some (3, yX3_plan, cX3_plan, 5, none, false)
  | 9 => some (3, yX3_isOrderOf, cX3_isOrderOf, 3, (some .boolean), false)
  | 10 => some (3, yX3_findLive, cX3_findLive, 13, none, false)
  | 11 => some (3, yX3_countSets, cX3_countSets, 16, (some .int), false)
  | 12 => some (3, yX3_emptySet, cX3_emptySet, 1, none, false)
  | 13 => some (3, yX3_addToSet, cX3_addToSet, 6, none, false)
  | 14 => some (3, yX3_spotFor, cX3_spotFor, 10, (some .int), false)
  | 15 => some (3, yX3_makeRoomInSet, cX3_makeRoomInSet, 6, none, false)
  | _ => none
def hb_F4 (isI : Bool) : ab_FT
  | 11 => some (5, 2, (.array .long), isI)
  | 15 => some (5, 3, (.array .long), isI)
  | 18 => some (5, 4, (.array .long), isI)
  | 21 => some (5, 11, .int, true)
  | 25 => some (5, 15, (.array .int), isI)
  | 29 => some (5, 17, (.array .int), isI)
  | 32 => some (5, 0, (.object "DispatchHouse$World"), isI)
  | 36 => some (5, 1, (.object "DispatchHouse$Chooser"), isI)
  | 46 => some (12, 2, (.object "DispatchHouse$Code"), false)
  | 53 => some (5, 7, .int, true)
  | 56 => some (2, 0, (.array .int), true)
  | 61 => some (5, 14, .int, true)
  | 64 => some (2, 2, (.array .int), true)
  | 71 => some (2, 1, (.array .int), true)
  | 74 => some (12, 6, (.array .int), false)
  | 80 => some (5, 6, .int, true)
  | 83 => some (5, 10, .long, true)
  | 115 => some (5, 9, .int, true)
  | 122 => some (1, 3, .int, true)
  | 125 => some (1, 4, .int, true)
  | 128 => some (5, 5, .int, true)
  | 131 => some (5, 8, .int, true)
  | 134 => some (5, 16, .int, true)
  | 137 => some (5, 18, .int, true)
  | 140 => some (5, 12, .boolean, true)
  | 144 => some (5, 13, .long, true)
  | 168 => some (12, 0, (.object "DispatchHouse$Kinds"), false)
  | 209 => some (12, 1, (.object "DispatchHouse$Methods"), false)
  | 213 => some (6, 4, (.array .int), false)
  | 221 => some (6, 1, (.array .int), false)
  | 224 => some (6, 2, (.array .int), false)
  | 227 => some (12, 7, (.array .int), false)
  | _ => none
theorem hb_F4_ok (isI : Bool) : ab_Fd RX4 isI hb_TB vwCl (hb_F4 isI) := by
  intro ix ci k ty ok h
  unfold hb_F4 at h
  split at h
  · cases h
    exact ⟨RX4, TX4, 19, tyX4, rfl, by decide, hb_inX4, (hb_w 939 (by decide +kernel)), tyX4_ok, nmX4, rfl, fun h => Or.inr ⟨rfl, h, rfl⟩⟩
  · cases h
    exact ⟨RX4, TX4, 19, tyX4, rfl, by decide, hb_inX4, (hb_w 940 (by decide +kernel)), tyX4_ok, nmX4, rfl, fun h => Or.inr ⟨rfl, h, rfl⟩⟩
  · cases h
    exact ⟨RX4, TX4, 19, tyX4, rfl, by decide, hb_inX4, (hb_w 941 (by decide +kernel)), tyX4_ok, nmX4, rfl, fun h => Or.inr ⟨rfl, h, rfl⟩⟩
  · cases h
    exact ⟨RX4, TX4, 19, tyX4, rfl, by decide, hb_inX4, (hb_w 948 (by decide +kernel)), tyX4_ok, nmX4, rfl, fun _ => Or.inl rfl⟩
  · cases h
    exact ⟨RX4, TX4, 19, tyX4, rfl, by decide, hb_inX4, (hb_w 956 (by decide +kernel)), tyX4_ok, nmX4, rfl, fun h => Or.inr ⟨rfl, h, rfl⟩⟩
  · cases h
    exact ⟨RX4, TX4, 19, tyX4, rfl, by decide, hb_inX4, (hb_w 960 (by decide +kernel)), tyX4_ok, nmX4, rfl, fun h => Or.inr ⟨rfl, h, rfl⟩⟩
  · cases h
    exact ⟨RX4, TX4, 19, tyX4, rfl, by decide, hb_inX4, (hb_w 936 (by decide +kernel)), tyX4_ok, nmX4, rfl, fun h => Or.inr ⟨rfl, h, rfl⟩⟩
  · cases h
    exact ⟨RX4, TX4, 19, tyX4, rfl, by decide, hb_inX4, (hb_w 937 (by decide +kernel)), tyX4_ok, nmX4, rfl, fun h => Or.inr ⟨rfl, h, rfl⟩⟩
  · cases h
    exact ⟨RX11, TX11, 18, tyX11, rfl, by decide, hb_inX11, (hb_w 570 (by decide +kernel)), tyX11_ok, nmX11, rfl, fun h => by cases h⟩
  · cases h
    exact ⟨RX4, TX4, 19, tyX4, rfl, by decide, hb_inX4, (hb_w 944 (by decide +kernel)), tyX4_ok, nmX4, rfl, fun _ => Or.inl rfl⟩
  · cases h
    exact ⟨RX1, TX1, 5, tyX1, rfl, by decide, hb_inX1, (hb_w 391 (by decide +kernel)), tyX1_ok, nmX1, rfl, fun _ => Or.inl rfl⟩
  · cases h
    exact ⟨RX4, TX4, 19, tyX4, rfl, by decide, hb_inX4, (hb_w 954 (by decide +kernel)), tyX4_ok, nmX4, rfl, fun _ => Or.inl rfl⟩
  · cases h
    exact ⟨RX1, TX1, 5, tyX1, rfl, by decide, hb_inX1, (hb_w 395 (by decide +kernel)), tyX1_ok, nmX1, rfl, fun _ => Or.inl rfl⟩
  · cases h
    exact ⟨RX1, TX1, 5, tyX1, rfl, by decide, hb_inX1, (hb_w 393 (by decide +kernel)), tyX1_ok, nmX1, rfl, fun _ => Or.inl rfl⟩
  · cases h
    exact ⟨RX11, TX11, 18, tyX11, rfl, by decide, hb_inX11, (hb_w 580 (by decide +kernel)), tyX11_ok, nmX11, rfl, fun h => by cases h⟩
  · cases h
    exact ⟨RX4, TX4, 19, tyX4, rfl, by decide, hb_inX4, (hb_w 943 (by decide +kernel)), tyX4_ok, nmX4, rfl, fun _ => Or.inl rfl⟩
  · cases h
    exact ⟨RX4, TX4, 19, tyX4, rfl, by decide, hb_inX4, (hb_w 947 (by decide +kernel)), tyX4_ok, nmX4, rfl, fun _ => Or.inl rfl⟩
  · cases h
    exact ⟨RX4, TX4, 19, tyX4, rfl, by decide, hb_inX4, (hb_w 946 (by decide +kernel)), tyX4_ok, nmX4, rfl, fun _ => Or.inl rfl⟩
  · cases h
    exact ⟨RX0, TX0, 14, tyX0, rfl, by decide, hb_inX0, (hb_w 889 (by decide +kernel)), tyX0_ok, nmX0, rfl, fun _ => Or.inl rfl⟩
  · cases h
    exact ⟨RX0, TX0, 14, tyX0, rfl, by decide, hb_inX0, (hb_w 891 (by decide +kernel)), tyX0_ok, nmX0, rfl, fun _ => Or.inl rfl⟩
  · cases h
    exact ⟨RX4, TX4, 19, tyX4, rfl, by decide, hb_inX4, (hb_w 942 (by decide +kernel)), tyX4_ok, nmX4, rfl, fun _ => Or.inl rfl⟩
  · cases h
    exact ⟨RX4, TX4, 19, tyX4, rfl, by decide, hb_inX4, (hb_w 945 (by decide +kernel)), tyX4_ok, nmX4, rfl, fun _ => Or.inl rfl⟩
  · cases h
    exact ⟨RX4, TX4, 19, tyX4, rfl, by decide, hb_inX4, (hb_w 958 (by decide +kernel)), tyX4_ok, nmX4, rfl, fun _ => Or.inl rfl⟩
  · cases h
    exact ⟨RX4, TX4, 19, tyX4, rfl, by decide, hb_inX4, (hb_w 962 (by decide +kernel)), tyX4_ok, nmX4, rfl, fun _ => Or.inl rfl⟩
  · cases h
    exact ⟨RX4, TX4, 19, tyX4, rfl, by decide, hb_inX4, (hb_w 950 (by decide +kernel)), tyX4_ok, nmX4, rfl, fun _ => Or.inl rfl⟩
  · cases h
    exact ⟨RX4, TX4, 19, tyX4, rfl, by decide, hb_inX4, (hb_w 952 (by decide +kernel)), tyX4_ok, nmX4, rfl, fun _ => Or.inl rfl⟩
  · cases h
    exact ⟨RX11, TX11, 18, tyX11, rfl, by decide, hb_inX11, (hb_w 559 (by decide +kernel)), tyX11_ok, nmX11, rfl, fun h => by cases h⟩
  · cases h
    exact ⟨RX11, TX11, 18, tyX11, rfl, by decide, hb_inX11, (hb_w 567 (by decide +kernel)), tyX11_ok, nmX11, rfl, fun h => by cases h⟩
  · cases h
    exact ⟨RX5, TX5, 14, tyX5, rfl, by decide, hb_inX5, (hb_w 318 (by decide +kernel)), tyX5_ok, nmX5, rfl, fun h => by cases h⟩
  · cases h
    exact ⟨RX5, TX5, 14, tyX5, rfl, by decide, hb_inX5, (hb_w 306 (by decide +kernel)), tyX5_ok, nmX5, rfl, fun h => by cases h⟩
  · cases h
    exact ⟨RX5, TX5, 14, tyX5, rfl, by decide, hb_inX5, (hb_w 311 (by decide +kernel)), tyX5_ok, nmX5, rfl, fun h => by cases h⟩
  · cases h
    exact ⟨RX11, TX11, 18, tyX11, rfl, by decide, hb_inX11, (hb_w 588 (by decide +kernel)), tyX11_ok, nmX11, rfl, fun h => by cases h⟩
  · cases h
def hb_C4 : ab_CT
  | _ => none
theorem hb_C4_ok : ab_Cd RX4 hb_TB vwCl hb_C4 := by
  intro ix ci fs h
  unfold hb_C4 at h
  split at h
  · cases h
def hb_I4 : Nat → Option Int32
  | 52 => some (10000000)
  | 234 => some (2147483647)
  | _ => none
theorem hb_I4_ok : ∀ ix v, hb_I4 ix = some v → Cond.constant RX4 ix v ∈ hb_TB := by
  intro ix v h
  unfold hb_I4 at h
  split at h
  · cases h
    exact (hb_w 1765 (by decide +kernel))
  · cases h
    exact (hb_w 1851 (by decide +kernel))
  · cases h
def hb_L4 : Nat → Option Int64
  | 40 => some (4294967295)
  | 166 => some (15)
  | 230 => some (2)
  | 242 => some (3)
  | 253 => some (120)
  | _ => none
theorem hb_L4_ok : ∀ ix v, hb_L4 ix = some v → Cond.constantLong RX4 ix v ∈ hb_TB := by
  intro ix v h
  unfold hb_L4 at h
  split at h
  · cases h
    exact (hb_w 1855 (by decide +kernel))
  · cases h
    exact (hb_w 1898 (by decide +kernel))
  · cases h
    exact (hb_w 1850 (by decide +kernel))
  · cases h
    exact (hb_w 1868 (by decide +kernel))
  · cases h
    exact (hb_w 1886 (by decide +kernel))
  · cases h
def hb_T4 : Nat → Option (Nat × Nat × Nat × Nat)
  | 5 => some (4, 0, 0, 0)
  | 42 => some (0, 1028, 1, 5)
  | 67 => some (0, 1029, 3, 5)
  | 77 => some (0, 1032, 1, 5)
  | 87 => some (0, 4, 4, 1)
  | 93 => some (0, 1042, 1, 5)
  | 97 => some (0, 1044, 1, 5)
  | 100 => some (0, 1031, 0, 5)
  | 104 => some (0, 1048, 1, 5)
  | 108 => some (0, 1040, 1, 5)
  | 111 => some (0, 1033, 2, 5)
  | 118 => some (1, 1026, 2, 0)
  | 147 => some (0, 1030, 1, 5)
  | 150 => some (1, 1034, 2, 0)
  | 154 => some (0, 1038, 1, 5)
  | 157 => some (0, 1039, 1, 5)
  | 160 => some (0, 1037, 0, 5)
  | 163 => some (0, 1035, 2, 5)
  | 172 => some (1, 1025, 1, 0)
  | 176 => some (0, 513, 2, 3)
  | 182 => some (1, 1036, 3, 0)
  | 186 => some (0, 1, 2, 1)
  | 190 => some (0, 1043, 5, 5)
  | 194 => some (0, 2, 2, 1)
  | 197 => some (0, 1045, 2, 5)
  | 200 => some (0, 3, 3, 1)
  | 203 => some (5, 0, 0, 0)
  | 218 => some (0, 1041, 2, 5)
  | 235 => some (0, 1046, 0, 5)
  | 238 => some (0, 1047, 1, 5)
  | 244 => some (0, 1049, 2, 5)
  | 248 => some (1, 9217, 2, 0)
  | _ => none
def hb_M4 : Nat → Option ab_MI
  | 0 => some (4, yX4_init, cX4_init, 3, none, true)
  | 1 => some (4, yX4_kindOf, cX4_kindOf, 2, (some .int), false)
  | 2 => some (4, yX4_valueOf, cX4_valueOf, 2, (some .long), false)
  | 3 => some (4, yX4_perform, cX4_perform, 8, none, false)
  | 4 => some (4, yX4_beginRun, cX4_beginRun, 2, none, false)
  | 5 => some (4, yX4_finish, cX4_finish, 5, none, false)
  | 6 => some (4, yX4_push, cX4_push, 3, none, false)
  | 7 => some (4, yX4_pop, cX4_pop, 1, (some .long), false)
  | 8 => some (4, yX4_takeGiven, cX4_takeGiven, 3, none, false)
  | 9 => some (4, yX4_obey, cX4_obey, 5, none, false)
  | 10 => some (4, yX4_without, cX4_without, 8, (some .long), false)
  | 11 => some (4, yX4_reckon, cX4_reckon, 5, none, false)
  | 12 => some (4, yX4_joinTwo, cX4_joinTwo, 3, (some .int), false)
  | 13 => some (4, yX4_showTop, cX4_showTop, 3, none, false)
  | 14 => some (4, yX4_beginTry, cX4_beginTry, 3, none, false)
  | 15 => some (4, yX4_endTry, cX4_endTry, 4, none, false)
  | 16 => some (4, yX4_failWith, cX4_failWith, 3, none, false)
  | 17 => some (4, yX4_inFrame, cX4_inFrame, 3, (some .int), false)
  | 18 => some (4, yX4_beginCall, cX4_beginCall, 3, none, false)
  | 19 => some (4, yX4_beginMethod, cX4_beginMethod, 8, none, false)
  | 20 => some (4, yX4_goToNext, cX4_goToNext, 8, none, false)
  | 21 => some (4, yX4_beginInside, cX4_beginInside, 5, none, false)
  | 22 => some (4, yX4_goOnInside, cX4_goOnInside, 8, none, false)
  | 23 => some (4, yX4_plainTurns, cX4_plainTurns, 3, (some .int), false)
  | 24 => some (4, yX4_endMethod, cX4_endMethod, 4, none, false)
  | 25 => some (4, yX4_joinValue, cX4_joinValue, 10, none, false)
  | _ => none
def hb_F5 (isI : Bool) : ab_FT
  | 11 => some (6, 1, (.array .int), isI)
  | 15 => some (6, 2, (.array .int), isI)
  | 18 => some (6, 3, (.array .int), isI)
  | 21 => some (6, 4, (.array .int), isI)
  | 24 => some (6, 5, (.array .int), isI)
  | 27 => some (6, 6, (.array .boolean), isI)
  | 31 => some (6, 7, (.array .int), isI)
  | 34 => some (6, 8, (.array .int), isI)
  | 37 => some (6, 9, (.array .int), isI)
  | 40 => some (6, 10, (.array .int), isI)
  | 43 => some (6, 11, (.array .int), isI)
  | 46 => some (6, 12, (.array .long), isI)
  | 50 => some (6, 13, (.array .long), isI)
  | 53 => some (6, 0, .int, true)
  | _ => none
theorem hb_F5_ok (isI : Bool) : ab_Fd RX5 isI hb_TB vwCl (hb_F5 isI) := by
  intro ix ci k ty ok h
  unfold hb_F5 at h
  split at h
  · cases h
    exact ⟨RX5, TX5, 14, tyX5, rfl, by decide, hb_inX5, (hb_w 302 (by decide +kernel)), tyX5_ok, nmX5, rfl, fun h => Or.inr ⟨rfl, h, rfl⟩⟩
  · cases h
    exact ⟨RX5, TX5, 14, tyX5, rfl, by decide, hb_inX5, (hb_w 307 (by decide +kernel)), tyX5_ok, nmX5, rfl, fun h => Or.inr ⟨rfl, h, rfl⟩⟩
  · cases h
    exact ⟨RX5, TX5, 14, tyX5, rfl, by decide, hb_inX5, (hb_w 312 (by decide +kernel)), tyX5_ok, nmX5, rfl, fun h => Or.inr ⟨rfl, h, rfl⟩⟩
  · cases h
    exact ⟨RX5, TX5, 14, tyX5, rfl, by decide, hb_inX5, (hb_w 316 (by decide +kernel)), tyX5_ok, nmX5, rfl, fun h => Or.inr ⟨rfl, h, rfl⟩⟩
  · cases h
    exact ⟨RX5, TX5, 14, tyX5, rfl, by decide, hb_inX5, (hb_w 319 (by decide +kernel)), tyX5_ok, nmX5, rfl, fun h => Or.inr ⟨rfl, h, rfl⟩⟩
  · cases h
    exact ⟨RX5, TX5, 14, tyX5, rfl, by decide, hb_inX5, (hb_w 323 (by decide +kernel)), tyX5_ok, nmX5, rfl, fun h => Or.inr ⟨rfl, h, rfl⟩⟩
  · cases h
    exact ⟨RX5, TX5, 14, tyX5, rfl, by decide, hb_inX5, (hb_w 327 (by decide +kernel)), tyX5_ok, nmX5, rfl, fun h => Or.inr ⟨rfl, h, rfl⟩⟩
  · cases h
    exact ⟨RX5, TX5, 14, tyX5, rfl, by decide, hb_inX5, (hb_w 331 (by decide +kernel)), tyX5_ok, nmX5, rfl, fun h => Or.inr ⟨rfl, h, rfl⟩⟩
  · cases h
    exact ⟨RX5, TX5, 14, tyX5, rfl, by decide, hb_inX5, (hb_w 335 (by decide +kernel)), tyX5_ok, nmX5, rfl, fun h => Or.inr ⟨rfl, h, rfl⟩⟩
  · cases h
    exact ⟨RX5, TX5, 14, tyX5, rfl, by decide, hb_inX5, (hb_w 339 (by decide +kernel)), tyX5_ok, nmX5, rfl, fun h => Or.inr ⟨rfl, h, rfl⟩⟩
  · cases h
    exact ⟨RX5, TX5, 14, tyX5, rfl, by decide, hb_inX5, (hb_w 343 (by decide +kernel)), tyX5_ok, nmX5, rfl, fun h => Or.inr ⟨rfl, h, rfl⟩⟩
  · cases h
    exact ⟨RX5, TX5, 14, tyX5, rfl, by decide, hb_inX5, (hb_w 347 (by decide +kernel)), tyX5_ok, nmX5, rfl, fun h => Or.inr ⟨rfl, h, rfl⟩⟩
  · cases h
    exact ⟨RX5, TX5, 14, tyX5, rfl, by decide, hb_inX5, (hb_w 350 (by decide +kernel)), tyX5_ok, nmX5, rfl, fun h => Or.inr ⟨rfl, h, rfl⟩⟩
  · cases h
    exact ⟨RX5, TX5, 14, tyX5, rfl, by decide, hb_inX5, (hb_w 298 (by decide +kernel)), tyX5_ok, nmX5, rfl, fun _ => Or.inl rfl⟩
  · cases h
def hb_C5 : ab_CT
  | _ => none
theorem hb_C5_ok : ab_Cd RX5 hb_TB vwCl hb_C5 := by
  intro ix ci fs h
  unfold hb_C5 at h
  split at h
  · cases h
def hb_I5 : Nat → Option Int32
  | _ => none
theorem hb_I5_ok : ∀ ix v, hb_I5 ix = some v → Cond.constant RX5 ix v ∈ hb_TB := by
  intro ix v h
  unfold hb_I5 at h
  split at h
  · cases h
def hb_L5 : Nat → Option Int64
  | 57 => some (-1)
  | _ => none
theorem hb_L5_ok : ∀ ix v, hb_L5 ix = some v → Cond.constantLong RX5 ix v ∈ hb_TB := by
  intro ix v h
  unfold hb_L5 at h
  split at h
  · cases h
    exact (hb_w 1225 (by decide +kernel))
  · cases h
def hb_T5 : Nat → Option (Nat × Nat × Nat × Nat)
  | 3 => some (4, 0, 0, 0)
  | 59 => some (0, 1285, 2, 6)
  | 63 => some (0, 1286, 2, 6)
  | _ => none
def hb_M5 : Nat → Option ab_MI
  | 0 => some (5, yX5_init, cX5_init, 1, none, true)
  | 1 => some (5, yX5_isThere, cX5_isThere, 2, (some .boolean), false)
  | 2 => some (5, yX5_open, cX5_open, 4, none, false)
  | 3 => some (5, yX5_addTest, cX5_addTest, 9, (some .int), false)
  | 4 => some (5, yX5_asked, cX5_asked, 4, (some .int), false)
  | 5 => some (5, yX5_sameKinds, cX5_sameKinds, 4, (some .boolean), false)
  | 6 => some (5, yX5_sameEquals, cX5_sameEquals, 6, (some .boolean), false)
  | 7 => some (5, yX5_hasTwin, cX5_hasTwin, 3, (some .boolean), false)
  | _ => none
def hb_F6 (isI : Bool) : ab_FT
  | 11 => some (7, 2, (.array .int), isI)
  | 15 => some (7, 0, (.object "DispatchHouse$World"), isI)
  | 24 => some (7, 1, (.object "DispatchHouse$Space"), isI)
  | 34 => some (12, 1, (.object "DispatchHouse$Methods"), false)
  | 50 => some (6, 1, (.array .int), false)
  | 53 => some (12, 6, (.array .int), false)
  | 56 => some (6, 5, (.array .int), false)
  | 59 => some (12, 0, (.object "DispatchHouse$Kinds"), false)
  | 63 => some (12, 15, .int, true)
  | 73 => some (12, 8, (.array .int), false)
  | 110 => some (6, 8, (.array .int), false)
  | 113 => some (6, 9, (.array .int), false)
  | 116 => some (6, 10, (.array .int), false)
  | 119 => some (6, 11, (.array .int), false)
  | _ => none
theorem hb_F6_ok (isI : Bool) : ab_Fd RX6 isI hb_TB vwCl (hb_F6 isI) := by
  intro ix ci k ty ok h
  unfold hb_F6 at h
  split at h
  · cases h
    exact ⟨RX6, TX6, 3, tyX6, rfl, by decide, hb_inX6, (hb_w 778 (by decide +kernel)), tyX6_ok, nmX6, rfl, fun h => Or.inr ⟨rfl, h, rfl⟩⟩
  · cases h
    exact ⟨RX6, TX6, 3, tyX6, rfl, by decide, hb_inX6, (hb_w 776 (by decide +kernel)), tyX6_ok, nmX6, rfl, fun h => Or.inr ⟨rfl, h, rfl⟩⟩
  · cases h
    exact ⟨RX6, TX6, 3, tyX6, rfl, by decide, hb_inX6, (hb_w 777 (by decide +kernel)), tyX6_ok, nmX6, rfl, fun h => Or.inr ⟨rfl, h, rfl⟩⟩
  · cases h
    exact ⟨RX11, TX11, 18, tyX11, rfl, by decide, hb_inX11, (hb_w 561 (by decide +kernel)), tyX11_ok, nmX11, rfl, fun h => by cases h⟩
  · cases h
    exact ⟨RX5, TX5, 14, tyX5, rfl, by decide, hb_inX5, (hb_w 303 (by decide +kernel)), tyX5_ok, nmX5, rfl, fun h => by cases h⟩
  · cases h
    exact ⟨RX11, TX11, 18, tyX11, rfl, by decide, hb_inX11, (hb_w 579 (by decide +kernel)), tyX11_ok, nmX11, rfl, fun h => by cases h⟩
  · cases h
    exact ⟨RX5, TX5, 14, tyX5, rfl, by decide, hb_inX5, (hb_w 320 (by decide +kernel)), tyX5_ok, nmX5, rfl, fun h => by cases h⟩
  · cases h
    exact ⟨RX11, TX11, 18, tyX11, rfl, by decide, hb_inX11, (hb_w 554 (by decide +kernel)), tyX11_ok, nmX11, rfl, fun h => by cases h⟩
  · cases h
    exact ⟨RX11, TX11, 18, tyX11, rfl, by decide, hb_inX11, (hb_w 606 (by decide +kernel)), tyX11_ok, nmX11, rfl, fun _ => Or.inl rfl⟩
  · cases h
    exact ⟨RX11, TX11, 18, tyX11, rfl, by decide, hb_inX11, (hb_w 590 (by decide +kernel)), tyX11_ok, nmX11, rfl, fun h => by cases h⟩
  · cases h
    exact ⟨RX5, TX5, 14, tyX5, rfl, by decide, hb_inX5, (hb_w 333 (by decide +kernel)), tyX5_ok, nmX5, rfl, fun h => by cases h⟩
  · cases h
    exact ⟨RX5, TX5, 14, tyX5, rfl, by decide, hb_inX5, (hb_w 337 (by decide +kernel)), tyX5_ok, nmX5, rfl, fun h => by cases h⟩
  · cases h
    exact ⟨RX5, TX5, 14, tyX5, rfl, by decide, hb_inX5, (hb_w 341 (by decide +kernel)), tyX5_ok, nmX5, rfl, fun h => by cases h⟩
  · cases h
    exact ⟨RX5, TX5, 14, tyX5, rfl, by decide, hb_inX5, (hb_w 345 (by decide +kernel)), tyX5_ok, nmX5, rfl, fun h => by cases h⟩
  · cases h
def hb_C6 : ab_CT
  | 19 => some (10, [.null, .null, .null, .int 0, .null, .null, .null, .int 0, .null, .null, .int 0, .long 0])
  | _ => none
theorem hb_C6_ok : ab_Cd RX6 hb_TB vwCl hb_C6 := by
  intro ix ci fs h
  unfold hb_C6 at h
  split at h
  · cases h
    exact ⟨RX9, TX9, 12, tyX9, rfl, hb_inX9, tyX9_ok, (hb_w 731 (by decide +kernel)), (hb_w 732 (by decide +kernel)), (hb_w 210 (by decide +kernel)), by decide +kernel, rfl, fun _ => rfl⟩
  · cases h
def hb_I6 : Nat → Option Int32
  | 102 => some (1000000)
  | _ => none
theorem hb_I6_ok : ∀ ix v, hb_I6 ix = some v → Cond.constant RX6 ix v ∈ hb_TB := by
  intro ix v h
  unfold hb_I6 at h
  split at h
  · cases h
    exact (hb_w 1591 (by decide +kernel))
  · cases h
def hb_L6 : Nat → Option Int64
  | _ => none
theorem hb_L6_ok : ∀ ix v, hb_L6 ix = some v → Cond.constantLong RX6 ix v ∈ hb_TB := by
  intro ix v h
  unfold hb_L6 at h
  split at h
  · cases h
def hb_T6 : Nat → Option (Nat × Nat × Nat × Nat)
  | 3 => some (4, 0, 0, 0)
  | 21 => some (2, 2304, 1, 0)
  | 28 => some (1, 11265, 2, 0)
  | 40 => some (0, 1285, 2, 6)
  | 46 => some (0, 1539, 3, 7)
  | 67 => some (0, 515, 3, 3)
  | 76 => some (0, 513, 2, 3)
  | 79 => some (1, 8448, 2, 0)
  | 85 => some (0, 1284, 1, 6)
  | 89 => some (0, 1540, 2, 7)
  | 93 => some (0, 2305, 0, 10)
  | 96 => some (0, 2306, 2, 10)
  | 99 => some (0, 2308, 0, 10)
  | 103 => some (0, 2309, 0, 10)
  | 107 => some (0, 2311, 2, 10)
  | _ => none
def hb_M6 : Nat → Option ab_MI
  | 0 => some (6, yX6_init, cX6_init, 2, none, true)
  | 1 => some (6, yX6_forgetAll, cX6_forgetAll, 1, none, false)
  | 2 => some (6, yX6_compare, cX6_compare, 13, (some .int), false)
  | 3 => some (6, yX6_whoAsksMore, cX6_whoAsksMore, 13, (some .int), false)
  | 4 => some (6, yX6_isTests, cX6_isTests, 7, (some .int), false)
  | _ => none
def hb_F7 (isI : Bool) : ab_FT
  | 12 => some (8, 1, (.object "DispatchHouse$Signs"), isI)
  | 18 => some (8, 0, (.object "DispatchHouse$World"), isI)
  | 34 => some (9, 4, .int, true)
  | 38 => some (8, 4, .int, true)
  | 74 => some (12, 2, (.object "DispatchHouse$Code"), false)
  | 78 => some (2, 3, .int, true)
  | 83 => some (8, 7, .boolean, true)
  | 87 => some (8, 8, .int, true)
  | 90 => some (12, 3, (.array .int), false)
  | 97 => some (8, 3, .int, true)
  | 100 => some (8, 5, .int, true)
  | 103 => some (8, 6, .int, true)
  | 106 => some (8, 2, .int, true)
  | 109 => some (9, 0, (.array .int), true)
  | 112 => some (9, 1, (.array .int), true)
  | 115 => some (9, 2, (.array .long), true)
  | 119 => some (9, 3, (.array .long), true)
  | 142 => some (12, 0, (.object "DispatchHouse$Kinds"), false)
  | 146 => some (3, 4, .int, true)
  | 170 => some (12, 6, (.array .int), false)
  | 173 => some (12, 7, (.array .int), false)
  | 176 => some (12, 8, (.array .int), false)
  | 179 => some (12, 1, (.object "DispatchHouse$Methods"), false)
  | 183 => some (6, 0, .int, true)
  | 194 => some (6, 2, (.array .int), false)
  | 197 => some (6, 3, (.array .int), false)
  | 200 => some (8, 10, .int, true)
  | 203 => some (6, 13, (.array .long), false)
  | 210 => some (6, 4, (.array .int), false)
  | 219 => some (6, 5, (.array .int), false)
  | 225 => some (6, 6, (.array .boolean), false)
  | 229 => some (6, 7, (.array .int), false)
  | 256 => some (8, 11, .int, true)
  | 259 => some (8, 12, .long, true)
  | 265 => some (8, 9, .int, true)
  | 274 => some (2, 2, (.array .int), true)
  | 316 => some (3, 0, (.array .boolean), false)
  | _ => none
theorem hb_F7_ok (isI : Bool) : ab_Fd RX7 isI hb_TB vwCl (hb_F7 isI) := by
  intro ix ci k ty ok h
  unfold hb_F7 at h
  split at h
  · cases h
    exact ⟨RX7, TX7, 13, tyX7, rfl, by decide, hb_inX7, (hb_w 685 (by decide +kernel)), tyX7_ok, nmX7, rfl, fun h => Or.inr ⟨rfl, h, rfl⟩⟩
  · cases h
    exact ⟨RX7, TX7, 13, tyX7, rfl, by decide, hb_inX7, (hb_w 684 (by decide +kernel)), tyX7_ok, nmX7, rfl, fun h => Or.inr ⟨rfl, h, rfl⟩⟩
  · cases h
    exact ⟨RX8, TX8, 5, tyX8, rfl, by decide, hb_inX8, (hb_w 671 (by decide +kernel)), tyX8_ok, nmX8, rfl, fun _ => Or.inl rfl⟩
  · cases h
    exact ⟨RX7, TX7, 13, tyX7, rfl, by decide, hb_inX7, (hb_w 689 (by decide +kernel)), tyX7_ok, nmX7, rfl, fun _ => Or.inl rfl⟩
  · cases h
    exact ⟨RX11, TX11, 18, tyX11, rfl, by decide, hb_inX11, (hb_w 569 (by decide +kernel)), tyX11_ok, nmX11, rfl, fun h => by cases h⟩
  · cases h
    exact ⟨RX1, TX1, 5, tyX1, rfl, by decide, hb_inX1, (hb_w 398 (by decide +kernel)), tyX1_ok, nmX1, rfl, fun _ => Or.inl rfl⟩
  · cases h
    exact ⟨RX7, TX7, 13, tyX7, rfl, by decide, hb_inX7, (hb_w 692 (by decide +kernel)), tyX7_ok, nmX7, rfl, fun _ => Or.inl rfl⟩
  · cases h
    exact ⟨RX7, TX7, 13, tyX7, rfl, by decide, hb_inX7, (hb_w 693 (by decide +kernel)), tyX7_ok, nmX7, rfl, fun _ => Or.inl rfl⟩
  · cases h
    exact ⟨RX11, TX11, 18, tyX11, rfl, by decide, hb_inX11, (hb_w 572 (by decide +kernel)), tyX11_ok, nmX11, rfl, fun h => by cases h⟩
  · cases h
    exact ⟨RX7, TX7, 13, tyX7, rfl, by decide, hb_inX7, (hb_w 688 (by decide +kernel)), tyX7_ok, nmX7, rfl, fun _ => Or.inl rfl⟩
  · cases h
    exact ⟨RX7, TX7, 13, tyX7, rfl, by decide, hb_inX7, (hb_w 690 (by decide +kernel)), tyX7_ok, nmX7, rfl, fun _ => Or.inl rfl⟩
  · cases h
    exact ⟨RX7, TX7, 13, tyX7, rfl, by decide, hb_inX7, (hb_w 691 (by decide +kernel)), tyX7_ok, nmX7, rfl, fun _ => Or.inl rfl⟩
  · cases h
    exact ⟨RX7, TX7, 13, tyX7, rfl, by decide, hb_inX7, (hb_w 686 (by decide +kernel)), tyX7_ok, nmX7, rfl, fun _ => Or.inl rfl⟩
  · cases h
    exact ⟨RX8, TX8, 5, tyX8, rfl, by decide, hb_inX8, (hb_w 664 (by decide +kernel)), tyX8_ok, nmX8, rfl, fun _ => Or.inl rfl⟩
  · cases h
    exact ⟨RX8, TX8, 5, tyX8, rfl, by decide, hb_inX8, (hb_w 666 (by decide +kernel)), tyX8_ok, nmX8, rfl, fun _ => Or.inl rfl⟩
  · cases h
    exact ⟨RX8, TX8, 5, tyX8, rfl, by decide, hb_inX8, (hb_w 668 (by decide +kernel)), tyX8_ok, nmX8, rfl, fun _ => Or.inl rfl⟩
  · cases h
    exact ⟨RX8, TX8, 5, tyX8, rfl, by decide, hb_inX8, (hb_w 670 (by decide +kernel)), tyX8_ok, nmX8, rfl, fun _ => Or.inl rfl⟩
  · cases h
    exact ⟨RX11, TX11, 18, tyX11, rfl, by decide, hb_inX11, (hb_w 558 (by decide +kernel)), tyX11_ok, nmX11, rfl, fun h => by cases h⟩
  · cases h
    exact ⟨RX2, TX2, 8, tyX2, rfl, by decide, hb_inX2, (hb_w 269 (by decide +kernel)), tyX2_ok, nmX2, rfl, fun _ => Or.inl rfl⟩
  · cases h
    exact ⟨RX11, TX11, 18, tyX11, rfl, by decide, hb_inX11, (hb_w 583 (by decide +kernel)), tyX11_ok, nmX11, rfl, fun h => by cases h⟩
  · cases h
    exact ⟨RX11, TX11, 18, tyX11, rfl, by decide, hb_inX11, (hb_w 587 (by decide +kernel)), tyX11_ok, nmX11, rfl, fun h => by cases h⟩
  · cases h
    exact ⟨RX11, TX11, 18, tyX11, rfl, by decide, hb_inX11, (hb_w 591 (by decide +kernel)), tyX11_ok, nmX11, rfl, fun h => by cases h⟩
  · cases h
    exact ⟨RX11, TX11, 18, tyX11, rfl, by decide, hb_inX11, (hb_w 566 (by decide +kernel)), tyX11_ok, nmX11, rfl, fun h => by cases h⟩
  · cases h
    exact ⟨RX5, TX5, 14, tyX5, rfl, by decide, hb_inX5, (hb_w 301 (by decide +kernel)), tyX5_ok, nmX5, rfl, fun _ => Or.inl rfl⟩
  · cases h
    exact ⟨RX5, TX5, 14, tyX5, rfl, by decide, hb_inX5, (hb_w 310 (by decide +kernel)), tyX5_ok, nmX5, rfl, fun h => by cases h⟩
  · cases h
    exact ⟨RX5, TX5, 14, tyX5, rfl, by decide, hb_inX5, (hb_w 315 (by decide +kernel)), tyX5_ok, nmX5, rfl, fun h => by cases h⟩
  · cases h
    exact ⟨RX7, TX7, 13, tyX7, rfl, by decide, hb_inX7, (hb_w 695 (by decide +kernel)), tyX7_ok, nmX7, rfl, fun _ => Or.inl rfl⟩
  · cases h
    exact ⟨RX5, TX5, 14, tyX5, rfl, by decide, hb_inX5, (hb_w 353 (by decide +kernel)), tyX5_ok, nmX5, rfl, fun h => by cases h⟩
  · cases h
    exact ⟨RX5, TX5, 14, tyX5, rfl, by decide, hb_inX5, (hb_w 317 (by decide +kernel)), tyX5_ok, nmX5, rfl, fun h => by cases h⟩
  · cases h
    exact ⟨RX5, TX5, 14, tyX5, rfl, by decide, hb_inX5, (hb_w 322 (by decide +kernel)), tyX5_ok, nmX5, rfl, fun h => by cases h⟩
  · cases h
    exact ⟨RX5, TX5, 14, tyX5, rfl, by decide, hb_inX5, (hb_w 326 (by decide +kernel)), tyX5_ok, nmX5, rfl, fun h => by cases h⟩
  · cases h
    exact ⟨RX5, TX5, 14, tyX5, rfl, by decide, hb_inX5, (hb_w 330 (by decide +kernel)), tyX5_ok, nmX5, rfl, fun h => by cases h⟩
  · cases h
    exact ⟨RX7, TX7, 13, tyX7, rfl, by decide, hb_inX7, (hb_w 696 (by decide +kernel)), tyX7_ok, nmX7, rfl, fun _ => Or.inl rfl⟩
  · cases h
    exact ⟨RX7, TX7, 13, tyX7, rfl, by decide, hb_inX7, (hb_w 697 (by decide +kernel)), tyX7_ok, nmX7, rfl, fun _ => Or.inl rfl⟩
  · cases h
    exact ⟨RX7, TX7, 13, tyX7, rfl, by decide, hb_inX7, (hb_w 694 (by decide +kernel)), tyX7_ok, nmX7, rfl, fun _ => Or.inl rfl⟩
  · cases h
    exact ⟨RX1, TX1, 5, tyX1, rfl, by decide, hb_inX1, (hb_w 396 (by decide +kernel)), tyX1_ok, nmX1, rfl, fun _ => Or.inl rfl⟩
  · cases h
    exact ⟨RX2, TX2, 8, tyX2, rfl, by decide, hb_inX2, (hb_w 263 (by decide +kernel)), tyX2_ok, nmX2, rfl, fun h => by cases h⟩
  · cases h
def hb_C7 : ab_CT
  | 9 => some (9, [.null, .null, .null, .null, .int 0])
  | _ => none
theorem hb_C7_ok : ab_Cd RX7 hb_TB vwCl hb_C7 := by
  intro ix ci fs h
  unfold hb_C7 at h
  split at h
  · cases h
    exact ⟨RX8, TX8, 5, tyX8, rfl, hb_inX8, tyX8_ok, (hb_w 657 (by decide +kernel)), (hb_w 658 (by decide +kernel)), (hb_w 201 (by decide +kernel)), by decide +kernel, rfl, fun _ => rfl⟩
  · cases h
def hb_I7 : Nat → Option Int32
  | _ => none
theorem hb_I7_ok : ∀ ix v, hb_I7 ix = some v → Cond.constant RX7 ix v ∈ hb_TB := by
  intro ix v h
  unfold hb_I7 at h
  split at h
  · cases h
def hb_L7 : Nat → Option Int64
  | 168 => some (3)
  | 232 => some (-1)
  | _ => none
theorem hb_L7_ok : ∀ ix v, hb_L7 ix = some v → Cond.constantLong RX7 ix v ∈ hb_TB := by
  intro ix v h
  unfold hb_L7 at h
  split at h
  · cases h
    exact (hb_w 1212 (by decide +kernel))
  · cases h
    exact (hb_w 1242 (by decide +kernel))
  · cases h
def hb_T7 : Nat → Option (Nat × Nat × Nat × Nat)
  | 3 => some (4, 0, 0, 0)
  | 11 => some (3, 2048, 0, 0)
  | 22 => some (0, 2049, 2, 9)
  | 26 => some (0, 1795, 0, 8)
  | 29 => some (0, 2823, 0, 12)
  | 41 => some (0, 1798, 0, 8)
  | 45 => some (0, 1803, 0, 8)
  | 48 => some (0, 1804, 0, 8)
  | 51 => some (0, 1805, 0, 8)
  | 54 => some (0, 1806, 0, 8)
  | 57 => some (0, 1799, 1, 8)
  | 61 => some (0, 1796, 0, 8)
  | 65 => some (0, 2825, 0, 12)
  | 68 => some (0, 2824, 0, 12)
  | 71 => some (0, 1797, 0, 8)
  | 94 => some (0, 1814, 1, 8)
  | 122 => some (0, 2819, 2, 12)
  | 126 => some (0, 1800, 2, 8)
  | 130 => some (0, 2820, 1, 12)
  | 134 => some (0, 2818, 3, 12)
  | 138 => some (0, 1801, 1, 8)
  | 151 => some (0, 1802, 1, 8)
  | 154 => some (0, 516, 1, 3)
  | 157 => some (0, 517, 1, 3)
  | 160 => some (0, 518, 2, 3)
  | 164 => some (0, 2821, 3, 12)
  | 188 => some (0, 1282, 2, 6)
  | 191 => some (0, 1807, 1, 8)
  | 206 => some (0, 1810, 2, 8)
  | 213 => some (0, 1287, 1, 6)
  | 216 => some (0, 1808, 2, 8)
  | 222 => some (0, 1809, 0, 8)
  | 234 => some (0, 1811, 2, 8)
  | 240 => some (0, 1812, 1, 8)
  | 243 => some (1, 9216, 2, 0)
  | 249 => some (0, 1283, 5, 6)
  | 253 => some (0, 1813, 0, 8)
  | 263 => some (0, 257, 1, 2)
  | 268 => some (0, 1816, 1, 8)
  | 271 => some (0, 258, 2, 2)
  | 277 => some (0, 1817, 1, 8)
  | 280 => some (0, 1819, 1, 8)
  | 283 => some (0, 1820, 1, 8)
  | 286 => some (0, 1821, 1, 8)
  | 289 => some (0, 1815, 2, 8)
  | 292 => some (0, 1822, 1, 8)
  | 295 => some (0, 1818, 2, 8)
  | 298 => some (0, 259, 2, 2)
  | 301 => some (0, 1823, 1, 8)
  | 304 => some (0, 1824, 1, 8)
  | 307 => some (0, 1825, 1, 8)
  | 310 => some (0, 1826, 1, 8)
  | 313 => some (0, 1827, 1, 8)
  | 319 => some (0, 1828, 2, 8)
  | _ => none
def hb_M7 : Nat → Option ab_MI
  | 0 => some (7, yX7_init, cX7_init, 2, none, true)
  | 1 => some (7, yX7_readText, cX7_readText, 4, (some .int), false)
  | 2 => some (7, yX7_readProgram, cX7_readProgram, 4, (some .int), false)
  | 3 => some (7, yX7_begin, cX7_begin, 1, none, false)
  | 4 => some (7, yX7_isClean, cX7_isClean, 1, (some .boolean), false)
  | 5 => some (7, yX7_verdict, cX7_verdict, 1, (some .int), false)
  | 6 => some (7, yX7_sign, cX7_sign, 1, (some .int), false)
  | 7 => some (7, yX7_take, cX7_take, 2, none, false)
  | 8 => some (7, yX7_breakRule, cX7_breakRule, 4, none, false)
  | 9 => some (7, yX7_takeNewName, cX7_takeNewName, 3, (some .int), false)
  | 10 => some (7, yX7_takeKnownName, cX7_takeKnownName, 4, (some .int), false)
  | 11 => some (7, yX7_readKind, cX7_readKind, 7, none, false)
  | 12 => some (7, yX7_readCall, cX7_readCall, 6, none, false)
  | 13 => some (7, yX7_readLayer, cX7_readLayer, 2, none, false)
  | 14 => some (7, yX7_readMethod, cX7_readMethod, 4, none, false)
  | 15 => some (7, yX7_readSpecs, cX7_readSpecs, 6, none, false)
  | 16 => some (7, yX7_readSpec, cX7_readSpec, 5, none, false)
  | 17 => some (7, yX7_takeNumber, cX7_takeNumber, 3, (some .int), false)
  | 18 => some (7, yX7_readTest, cX7_readTest, 11, (some .long), false)
  | 19 => some (7, yX7_readOneOfTest, cX7_readOneOfTest, 5, (some .long), false)
  | 20 => some (7, yX7_readComparison, cX7_readComparison, 8, (some .int), false)
  | 21 => some (7, yX7_readTerm, cX7_readTerm, 2, none, false)
  | 22 => some (7, yX7_readBody, cX7_readBody, 2, none, false)
  | 23 => some (7, yX7_addNode, cX7_addNode, 3, none, false)
  | 24 => some (7, yX7_readE, cX7_readE, 3, none, false)
  | 25 => some (7, yX7_readLet, cX7_readLet, 3, none, false)
  | 26 => some (7, yX7_readWithVariable, cX7_readWithVariable, 4, none, false)
  | 27 => some (7, yX7_readIf, cX7_readIf, 5, none, false)
  | 28 => some (7, yX7_readWith, cX7_readWith, 3, none, false)
  | 29 => some (7, yX7_readTry, cX7_readTry, 6, none, false)
  | 30 => some (7, yX7_readCompared, cX7_readCompared, 4, none, false)
  | 31 => some (7, yX7_readSum, cX7_readSum, 6, none, false)
  | 32 => some (7, yX7_readProduct, cX7_readProduct, 6, none, false)
  | 33 => some (7, yX7_readP, cX7_readP, 2, none, false)
  | 34 => some (7, yX7_readNamed, cX7_readNamed, 9, none, false)
  | 35 => some (7, yX7_readNext, cX7_readNext, 2, none, false)
  | 36 => some (7, yX7_readArguments, cX7_readArguments, 6, none, false)
  | _ => none
def hb_F8 (isI : Bool) : ab_FT
  | 7 => some (9, 0, (.array .int), true)
  | 13 => some (9, 1, (.array .int), true)
  | 16 => some (9, 2, (.array .long), true)
  | 20 => some (9, 3, (.array .long), true)
  | 29 => some (9, 4, .int, true)
  | _ => none
theorem hb_F8_ok (isI : Bool) : ab_Fd RX8 isI hb_TB vwCl (hb_F8 isI) := by
  intro ix ci k ty ok h
  unfold hb_F8 at h
  split at h
  · cases h
    exact ⟨RX8, TX8, 5, tyX8, rfl, by decide, hb_inX8, (hb_w 663 (by decide +kernel)), tyX8_ok, nmX8, rfl, fun _ => Or.inl rfl⟩
  · cases h
    exact ⟨RX8, TX8, 5, tyX8, rfl, by decide, hb_inX8, (hb_w 665 (by decide +kernel)), tyX8_ok, nmX8, rfl, fun _ => Or.inl rfl⟩
  · cases h
    exact ⟨RX8, TX8, 5, tyX8, rfl, by decide, hb_inX8, (hb_w 667 (by decide +kernel)), tyX8_ok, nmX8, rfl, fun _ => Or.inl rfl⟩
  · cases h
    exact ⟨RX8, TX8, 5, tyX8, rfl, by decide, hb_inX8, (hb_w 669 (by decide +kernel)), tyX8_ok, nmX8, rfl, fun _ => Or.inl rfl⟩
  · cases h
    exact ⟨RX8, TX8, 5, tyX8, rfl, by decide, hb_inX8, (hb_w 672 (by decide +kernel)), tyX8_ok, nmX8, rfl, fun _ => Or.inl rfl⟩
  · cases h
def hb_C8 : ab_CT
  | _ => none
theorem hb_C8_ok : ab_Cd RX8 hb_TB vwCl hb_C8 := by
  intro ix ci fs h
  unfold hb_C8 at h
  split at h
  · cases h
def hb_I8 : Nat → Option Int32
  | _ => none
theorem hb_I8_ok : ∀ ix v, hb_I8 ix = some v → Cond.constant RX8 ix v ∈ hb_TB := by
  intro ix v h
  unfold hb_I8 at h
  split at h
  · cases h
def hb_L8 : Nat → Option Int64
  | 54 => some (10)
  | 56 => some (1099511627776)
  | 64 => some (2147483647)
  | _ => none
theorem hb_L8_ok : ∀ ix v, hb_L8 ix = some v → Cond.constantLong RX8 ix v ∈ hb_TB := by
  intro ix v h
  unfold hb_L8 at h
  split at h
  · cases h
    exact (hb_w 1069 (by decide +kernel))
  · cases h
    exact (hb_w 1070 (by decide +kernel))
  · cases h
    exact (hb_w 1074 (by decide +kernel))
  · cases h
def hb_T8 : Nat → Option (Nat × Nat × Nat × Nat)
  | 1 => some (4, 0, 0, 0)
  | 23 => some (1, 9216, 2, 0)
  | 33 => some (0, 2051, 3, 9)
  | 37 => some (0, 2050, 4, 9)
  | 41 => some (0, 2052, 3, 9)
  | 44 => some (1, 2055, 1, 0)
  | 48 => some (0, 2053, 3, 9)
  | 51 => some (0, 2054, 3, 9)
  | 58 => some (1, 9218, 2, 0)
  | 66 => some (1, 2057, 3, 0)
  | 71 => some (6, 9475, 1, 0)
  | 76 => some (6, 9472, 0, 0)
  | 80 => some (6, 9473, 1, 0)
  | 86 => some (1, 2058, 4, 0)
  | _ => none
def hb_M8 : Nat → Option ab_MI
  | 0 => some (8, yX8_init, cX8_init, 1, none, true)
  | 1 => some (8, yX8_cut, cX8_cut, 6, none, false)
  | 2 => some (8, yX8_put, cX8_put, 7, none, false)
  | 3 => some (8, yX8_cutOne, cX8_cutOne, 6, (some .int), false)
  | 4 => some (8, yX8_cutNumber, cX8_cutNumber, 7, (some .int), false)
  | 5 => some (8, yX8_cutName, cX8_cutName, 9, (some .int), false)
  | 6 => some (8, yX8_cutMark, cX8_cutMark, 6, (some .int), false)
  | 7 => some (8, yX8_codeOf, cX8_codeOf, 1, (some .int), false)
  | 8 => some (8, yX8_packed, cX8_packed, 4, (some .long), false)
  | 9 => some (8, yX8_wordOrName, cX8_wordOrName, 6, (some .int), false)
  | 10 => some (8, yX8_isWord, cX8_isWord, 5, (some .boolean), false)
  | _ => none
def hb_F9 (isI : Bool) : ab_FT
  | 11 => some (10, 1, (.array .int), isI)
  | 15 => some (10, 2, (.array .boolean), isI)
  | 19 => some (10, 4, (.array .int), isI)
  | 22 => some (10, 5, (.array .int), isI)
  | 25 => some (10, 6, (.array .long), isI)
  | 29 => some (10, 8, (.array .int), isI)
  | 32 => some (10, 9, (.array .long), isI)
  | 35 => some (10, 0, (.object "DispatchHouse$World"), isI)
  | 45 => some (10, 3, .int, true)
  | 49 => some (10, 7, .int, true)
  | 52 => some (12, 1, (.object "DispatchHouse$Methods"), false)
  | 58 => some (6, 6, (.array .boolean), false)
  | 63 => some (6, 7, (.array .int), false)
  | 70 => some (6, 8, (.array .int), false)
  | 73 => some (6, 9, (.array .int), false)
  | 76 => some (12, 0, (.object "DispatchHouse$Kinds"), false)
  | 80 => some (6, 10, (.array .int), false)
  | 83 => some (6, 11, (.array .int), false)
  | 94 => some (6, 12, (.array .long), false)
  | 97 => some (10, 10, .int, true)
  | 100 => some (10, 11, .long, true)
  | 112 => some (6, 13, (.array .long), false)
  | _ => none
theorem hb_F9_ok (isI : Bool) : ab_Fd RX9 isI hb_TB vwCl (hb_F9 isI) := by
  intro ix ci k ty ok h
  unfold hb_F9 at h
  split at h
  · cases h
    exact ⟨RX9, TX9, 12, tyX9, rfl, by decide, hb_inX9, (hb_w 740 (by decide +kernel)), tyX9_ok, nmX9, rfl, fun h => Or.inr ⟨rfl, h, rfl⟩⟩
  · cases h
    exact ⟨RX9, TX9, 12, tyX9, rfl, by decide, hb_inX9, (hb_w 741 (by decide +kernel)), tyX9_ok, nmX9, rfl, fun h => Or.inr ⟨rfl, h, rfl⟩⟩
  · cases h
    exact ⟨RX9, TX9, 12, tyX9, rfl, by decide, hb_inX9, (hb_w 743 (by decide +kernel)), tyX9_ok, nmX9, rfl, fun h => Or.inr ⟨rfl, h, rfl⟩⟩
  · cases h
    exact ⟨RX9, TX9, 12, tyX9, rfl, by decide, hb_inX9, (hb_w 744 (by decide +kernel)), tyX9_ok, nmX9, rfl, fun h => Or.inr ⟨rfl, h, rfl⟩⟩
  · cases h
    exact ⟨RX9, TX9, 12, tyX9, rfl, by decide, hb_inX9, (hb_w 745 (by decide +kernel)), tyX9_ok, nmX9, rfl, fun h => Or.inr ⟨rfl, h, rfl⟩⟩
  · cases h
    exact ⟨RX9, TX9, 12, tyX9, rfl, by decide, hb_inX9, (hb_w 747 (by decide +kernel)), tyX9_ok, nmX9, rfl, fun h => Or.inr ⟨rfl, h, rfl⟩⟩
  · cases h
    exact ⟨RX9, TX9, 12, tyX9, rfl, by decide, hb_inX9, (hb_w 748 (by decide +kernel)), tyX9_ok, nmX9, rfl, fun h => Or.inr ⟨rfl, h, rfl⟩⟩
  · cases h
    exact ⟨RX9, TX9, 12, tyX9, rfl, by decide, hb_inX9, (hb_w 739 (by decide +kernel)), tyX9_ok, nmX9, rfl, fun h => Or.inr ⟨rfl, h, rfl⟩⟩
  · cases h
    exact ⟨RX9, TX9, 12, tyX9, rfl, by decide, hb_inX9, (hb_w 742 (by decide +kernel)), tyX9_ok, nmX9, rfl, fun _ => Or.inl rfl⟩
  · cases h
    exact ⟨RX9, TX9, 12, tyX9, rfl, by decide, hb_inX9, (hb_w 746 (by decide +kernel)), tyX9_ok, nmX9, rfl, fun _ => Or.inl rfl⟩
  · cases h
    exact ⟨RX11, TX11, 18, tyX11, rfl, by decide, hb_inX11, (hb_w 562 (by decide +kernel)), tyX11_ok, nmX11, rfl, fun h => by cases h⟩
  · cases h
    exact ⟨RX5, TX5, 14, tyX5, rfl, by decide, hb_inX5, (hb_w 324 (by decide +kernel)), tyX5_ok, nmX5, rfl, fun h => by cases h⟩
  · cases h
    exact ⟨RX5, TX5, 14, tyX5, rfl, by decide, hb_inX5, (hb_w 328 (by decide +kernel)), tyX5_ok, nmX5, rfl, fun h => by cases h⟩
  · cases h
    exact ⟨RX5, TX5, 14, tyX5, rfl, by decide, hb_inX5, (hb_w 332 (by decide +kernel)), tyX5_ok, nmX5, rfl, fun h => by cases h⟩
  · cases h
    exact ⟨RX5, TX5, 14, tyX5, rfl, by decide, hb_inX5, (hb_w 336 (by decide +kernel)), tyX5_ok, nmX5, rfl, fun h => by cases h⟩
  · cases h
    exact ⟨RX11, TX11, 18, tyX11, rfl, by decide, hb_inX11, (hb_w 555 (by decide +kernel)), tyX11_ok, nmX11, rfl, fun h => by cases h⟩
  · cases h
    exact ⟨RX5, TX5, 14, tyX5, rfl, by decide, hb_inX5, (hb_w 340 (by decide +kernel)), tyX5_ok, nmX5, rfl, fun h => by cases h⟩
  · cases h
    exact ⟨RX5, TX5, 14, tyX5, rfl, by decide, hb_inX5, (hb_w 344 (by decide +kernel)), tyX5_ok, nmX5, rfl, fun h => by cases h⟩
  · cases h
    exact ⟨RX5, TX5, 14, tyX5, rfl, by decide, hb_inX5, (hb_w 348 (by decide +kernel)), tyX5_ok, nmX5, rfl, fun h => by cases h⟩
  · cases h
    exact ⟨RX9, TX9, 12, tyX9, rfl, by decide, hb_inX9, (hb_w 749 (by decide +kernel)), tyX9_ok, nmX9, rfl, fun _ => Or.inl rfl⟩
  · cases h
    exact ⟨RX9, TX9, 12, tyX9, rfl, by decide, hb_inX9, (hb_w 750 (by decide +kernel)), tyX9_ok, nmX9, rfl, fun _ => Or.inl rfl⟩
  · cases h
    exact ⟨RX5, TX5, 14, tyX5, rfl, by decide, hb_inX5, (hb_w 351 (by decide +kernel)), tyX5_ok, nmX5, rfl, fun h => by cases h⟩
  · cases h
def hb_C9 : ab_CT
  | _ => none
theorem hb_C9_ok : ab_Cd RX9 hb_TB vwCl hb_C9 := by
  intro ix ci fs h
  unfold hb_C9 at h
  split at h
  · cases h
def hb_I9 : Nat → Option Int32
  | 104 => some (1000000)
  | _ => none
theorem hb_I9_ok : ∀ ix v, hb_I9 ix = some v → Cond.constant RX9 ix v ∈ hb_TB := by
  intro ix v h
  unfold hb_I9 at h
  split at h
  · cases h
    exact (hb_w 1596 (by decide +kernel))
  · cases h
def hb_L9 : Nat → Option Int64
  | 41 => some (2147483647)
  | 43 => some (-2147483648)
  | 92 => some (-1)
  | 115 => some (3)
  | _ => none
theorem hb_L9_ok : ∀ ix v, hb_L9 ix = some v → Cond.constantLong RX9 ix v ∈ hb_TB := by
  intro ix v h
  unfold hb_L9 at h
  split at h
  · cases h
    exact (hb_w 737 (by decide +kernel))
  · cases h
    exact (hb_w 738 (by decide +kernel))
  · cases h
    exact (hb_w 1586 (by decide +kernel))
  · cases h
    exact (hb_w 1609 (by decide +kernel))
  · cases h
def hb_T9 : Nat → Option (Nat × Nat × Nat × Nat)
  | 5 => some (4, 0, 0, 0)
  | 66 => some (0, 2307, 4, 10)
  | 86 => some (0, 513, 2, 3)
  | 105 => some (0, 2310, 1, 10)
  | 109 => some (0, 2312, 1, 10)
  | _ => none
def hb_M9 : Nat → Option ab_MI
  | 0 => some (9, yX9_init, cX9_init, 6, none, true)
  | 1 => some (9, yX9_empty, cX9_empty, 1, none, false)
  | 2 => some (9, yX9_cutBy, cX9_cutBy, 7, (some .int), false)
  | 3 => some (9, yX9_addCut, cX9_addCut, 6, none, false)
  | 4 => some (9, yX9_begin, cX9_begin, 1, none, false)
  | 5 => some (9, yX9_toNextCell, cX9_toNextCell, 3, (some .boolean), false)
  | 6 => some (9, yX9_goToSide, cX9_goToSide, 16, (some .boolean), false)
  | 7 => some (9, yX9_isTakenBy, cX9_isTakenBy, 7, (some .boolean), false)
  | 8 => some (9, yX9_holds, cX9_holds, 4, (some .boolean), false)
  | _ => none
def hb_F10 (isI : Bool) : ab_FT
  | 9 => some (11, 3, (.array .int), isI)
  | 15 => some (11, 4, (.array .int), isI)
  | 18 => some (11, 5, (.array .int), isI)
  | 21 => some (11, 6, (.array .int), isI)
  | 24 => some (11, 7, (.array .int), isI)
  | 27 => some (11, 8, (.array .int), isI)
  | 30 => some (11, 10, (.array .int), isI)
  | 33 => some (11, 0, (.object "DispatchHouse$World"), isI)
  | 37 => some (11, 1, (.object "DispatchHouse$Nearness"), isI)
  | 46 => some (11, 2, (.object "DispatchHouse$Space"), isI)
  | 50 => some (12, 16, .int, true)
  | 56 => some (12, 6, (.array .int), false)
  | 59 => some (12, 14, .int, true)
  | 77 => some (12, 13, (.array .int), false)
  | 80 => some (12, 1, (.object "DispatchHouse$Methods"), false)
  | 88 => some (11, 9, .int, true)
  | 91 => some (6, 2, (.array .int), false)
  | 96 => some (6, 3, (.array .int), false)
  | 117 => some (11, 11, .int, true)
  | 124 => some (12, 7, (.array .int), false)
  | _ => none
theorem hb_F10_ok (isI : Bool) : ab_Fd RX10 isI hb_TB vwCl (hb_F10 isI) := by
  intro ix ci k ty ok h
  unfold hb_F10 at h
  split at h
  · cases h
    exact ⟨RX10, TX10, 12, tyX10, rfl, by decide, hb_inX10, (hb_w 843 (by decide +kernel)), tyX10_ok, nmX10, rfl, fun h => Or.inr ⟨rfl, h, rfl⟩⟩
  · cases h
    exact ⟨RX10, TX10, 12, tyX10, rfl, by decide, hb_inX10, (hb_w 844 (by decide +kernel)), tyX10_ok, nmX10, rfl, fun h => Or.inr ⟨rfl, h, rfl⟩⟩
  · cases h
    exact ⟨RX10, TX10, 12, tyX10, rfl, by decide, hb_inX10, (hb_w 845 (by decide +kernel)), tyX10_ok, nmX10, rfl, fun h => Or.inr ⟨rfl, h, rfl⟩⟩
  · cases h
    exact ⟨RX10, TX10, 12, tyX10, rfl, by decide, hb_inX10, (hb_w 847 (by decide +kernel)), tyX10_ok, nmX10, rfl, fun h => Or.inr ⟨rfl, h, rfl⟩⟩
  · cases h
    exact ⟨RX10, TX10, 12, tyX10, rfl, by decide, hb_inX10, (hb_w 848 (by decide +kernel)), tyX10_ok, nmX10, rfl, fun h => Or.inr ⟨rfl, h, rfl⟩⟩
  · cases h
    exact ⟨RX10, TX10, 12, tyX10, rfl, by decide, hb_inX10, (hb_w 849 (by decide +kernel)), tyX10_ok, nmX10, rfl, fun h => Or.inr ⟨rfl, h, rfl⟩⟩
  · cases h
    exact ⟨RX10, TX10, 12, tyX10, rfl, by decide, hb_inX10, (hb_w 851 (by decide +kernel)), tyX10_ok, nmX10, rfl, fun h => Or.inr ⟨rfl, h, rfl⟩⟩
  · cases h
    exact ⟨RX10, TX10, 12, tyX10, rfl, by decide, hb_inX10, (hb_w 840 (by decide +kernel)), tyX10_ok, nmX10, rfl, fun h => Or.inr ⟨rfl, h, rfl⟩⟩
  · cases h
    exact ⟨RX10, TX10, 12, tyX10, rfl, by decide, hb_inX10, (hb_w 841 (by decide +kernel)), tyX10_ok, nmX10, rfl, fun h => Or.inr ⟨rfl, h, rfl⟩⟩
  · cases h
    exact ⟨RX10, TX10, 12, tyX10, rfl, by decide, hb_inX10, (hb_w 842 (by decide +kernel)), tyX10_ok, nmX10, rfl, fun h => Or.inr ⟨rfl, h, rfl⟩⟩
  · cases h
    exact ⟨RX11, TX11, 18, tyX11, rfl, by decide, hb_inX11, (hb_w 609 (by decide +kernel)), tyX11_ok, nmX11, rfl, fun _ => Or.inl rfl⟩
  · cases h
    exact ⟨RX11, TX11, 18, tyX11, rfl, by decide, hb_inX11, (hb_w 578 (by decide +kernel)), tyX11_ok, nmX11, rfl, fun h => by cases h⟩
  · cases h
    exact ⟨RX11, TX11, 18, tyX11, rfl, by decide, hb_inX11, (hb_w 603 (by decide +kernel)), tyX11_ok, nmX11, rfl, fun _ => Or.inl rfl⟩
  · cases h
    exact ⟨RX11, TX11, 18, tyX11, rfl, by decide, hb_inX11, (hb_w 601 (by decide +kernel)), tyX11_ok, nmX11, rfl, fun h => by cases h⟩
  · cases h
    exact ⟨RX11, TX11, 18, tyX11, rfl, by decide, hb_inX11, (hb_w 563 (by decide +kernel)), tyX11_ok, nmX11, rfl, fun h => by cases h⟩
  · cases h
    exact ⟨RX10, TX10, 12, tyX10, rfl, by decide, hb_inX10, (hb_w 850 (by decide +kernel)), tyX10_ok, nmX10, rfl, fun _ => Or.inl rfl⟩
  · cases h
    exact ⟨RX5, TX5, 14, tyX5, rfl, by decide, hb_inX5, (hb_w 308 (by decide +kernel)), tyX5_ok, nmX5, rfl, fun h => by cases h⟩
  · cases h
    exact ⟨RX5, TX5, 14, tyX5, rfl, by decide, hb_inX5, (hb_w 313 (by decide +kernel)), tyX5_ok, nmX5, rfl, fun h => by cases h⟩
  · cases h
    exact ⟨RX10, TX10, 12, tyX10, rfl, by decide, hb_inX10, (hb_w 852 (by decide +kernel)), tyX10_ok, nmX10, rfl, fun _ => Or.inl rfl⟩
  · cases h
    exact ⟨RX11, TX11, 18, tyX11, rfl, by decide, hb_inX11, (hb_w 586 (by decide +kernel)), tyX11_ok, nmX11, rfl, fun h => by cases h⟩
  · cases h
def hb_C10 : ab_CT
  | 41 => some (10, [.null, .null, .null, .int 0, .null, .null, .null, .int 0, .null, .null, .int 0, .long 0])
  | _ => none
theorem hb_C10_ok : ab_Cd RX10 hb_TB vwCl hb_C10 := by
  intro ix ci fs h
  unfold hb_C10 at h
  split at h
  · cases h
    exact ⟨RX9, TX9, 12, tyX9, rfl, hb_inX9, tyX9_ok, (hb_w 838 (by decide +kernel)), (hb_w 732 (by decide +kernel)), (hb_w 210 (by decide +kernel)), by decide +kernel, rfl, fun _ => rfl⟩
  · cases h
def hb_I10 : Nat → Option Int32
  | 112 => some (1000000)
  | _ => none
theorem hb_I10_ok : ∀ ix v, hb_I10 ix = some v → Cond.constant RX10 ix v ∈ hb_TB := by
  intro ix v h
  unfold hb_I10 at h
  split at h
  · cases h
    exact (hb_w 1722 (by decide +kernel))
  · cases h
def hb_L10 : Nat → Option Int64
  | _ => none
theorem hb_L10_ok : ∀ ix v, hb_L10 ix = some v → Cond.constantLong RX10 ix v ∈ hb_TB := by
  intro ix v h
  unfold hb_L10 at h
  split at h
  · cases h
def hb_T10 : Nat → Option (Nat × Nat × Nat × Nat)
  | 3 => some (4, 0, 0, 0)
  | 43 => some (2, 2304, 1, 0)
  | 62 => some (0, 2562, 2, 11)
  | 66 => some (0, 2564, 1, 11)
  | 70 => some (0, 2565, 1, 11)
  | 73 => some (0, 2563, 1, 11)
  | 84 => some (0, 2828, 3, 12)
  | 99 => some (0, 1284, 1, 6)
  | 102 => some (0, 2305, 0, 10)
  | 105 => some (0, 2306, 2, 10)
  | 109 => some (0, 2308, 0, 10)
  | 113 => some (0, 2309, 0, 10)
  | 120 => some (0, 2311, 2, 10)
  | 127 => some (0, 2566, 0, 11)
  | 130 => some (0, 1538, 3, 7)
  | _ => none
def hb_M10 : Nat → Option ab_MI
  | 0 => some (10, yX10_init, cX10_init, 3, none, true)
  | 1 => some (10, yX10_judge, cX10_judge, 7, (some .int), false)
  | 2 => some (10, yX10_goToRow, cX10_goToRow, 5, none, false)
  | 3 => some (10, yX10_keepKinds, cX10_keepKinds, 3, none, false)
  | 4 => some (10, yX10_gatherFitting, cX10_gatherFitting, 7, (some .int), false)
  | 5 => some (10, yX10_judgeRow, cX10_judgeRow, 5, (some .int), false)
  | 6 => some (10, yX10_hasNearest, cX10_hasNearest, 3, (some .boolean), false)
  | _ => none
def hb_F11 (isI : Bool) : ab_FT
  | 12 => some (12, 0, (.object "DispatchHouse$Kinds"), isI)
  | 21 => some (12, 1, (.object "DispatchHouse$Methods"), isI)
  | 28 => some (12, 2, (.object "DispatchHouse$Code"), isI)
  | 32 => some (12, 3, (.array .int), isI)
  | 36 => some (12, 4, (.array .long), isI)
  | 40 => some (12, 5, (.array .long), isI)
  | 43 => some (12, 6, (.array .int), isI)
  | 46 => some (12, 7, (.array .int), isI)
  | 49 => some (12, 8, (.array .int), isI)
  | 52 => some (12, 9, (.array .long), isI)
  | 55 => some (12, 10, (.array .long), isI)
  | 58 => some (12, 11, (.array .long), isI)
  | 61 => some (12, 12, (.array .long), isI)
  | 64 => some (12, 13, (.array .int), isI)
  | 67 => some (12, 16, .int, true)
  | 71 => some (12, 17, (.array .int), isI)
  | 115 => some (6, 0, .int, true)
  | 118 => some (2, 3, .int, true)
  | 127 => some (12, 14, .int, true)
  | 130 => some (3, 0, (.array .boolean), false)
  | 146 => some (6, 1, (.array .int), false)
  | 149 => some (6, 5, (.array .int), false)
  | _ => none
theorem hb_F11_ok (isI : Bool) : ab_Fd RX11 isI hb_TB vwCl (hb_F11 isI) := by
  intro ix ci k ty ok h
  unfold hb_F11 at h
  split at h
  · cases h
    exact ⟨RX11, TX11, 18, tyX11, rfl, by decide, hb_inX11, (hb_w 553 (by decide +kernel)), tyX11_ok, nmX11, rfl, fun h => Or.inr ⟨rfl, h, rfl⟩⟩
  · cases h
    exact ⟨RX11, TX11, 18, tyX11, rfl, by decide, hb_inX11, (hb_w 560 (by decide +kernel)), tyX11_ok, nmX11, rfl, fun h => Or.inr ⟨rfl, h, rfl⟩⟩
  · cases h
    exact ⟨RX11, TX11, 18, tyX11, rfl, by decide, hb_inX11, (hb_w 568 (by decide +kernel)), tyX11_ok, nmX11, rfl, fun h => Or.inr ⟨rfl, h, rfl⟩⟩
  · cases h
    exact ⟨RX11, TX11, 18, tyX11, rfl, by decide, hb_inX11, (hb_w 571 (by decide +kernel)), tyX11_ok, nmX11, rfl, fun h => Or.inr ⟨rfl, h, rfl⟩⟩
  · cases h
    exact ⟨RX11, TX11, 18, tyX11, rfl, by decide, hb_inX11, (hb_w 574 (by decide +kernel)), tyX11_ok, nmX11, rfl, fun h => Or.inr ⟨rfl, h, rfl⟩⟩
  · cases h
    exact ⟨RX11, TX11, 18, tyX11, rfl, by decide, hb_inX11, (hb_w 575 (by decide +kernel)), tyX11_ok, nmX11, rfl, fun h => Or.inr ⟨rfl, h, rfl⟩⟩
  · cases h
    exact ⟨RX11, TX11, 18, tyX11, rfl, by decide, hb_inX11, (hb_w 576 (by decide +kernel)), tyX11_ok, nmX11, rfl, fun h => Or.inr ⟨rfl, h, rfl⟩⟩
  · cases h
    exact ⟨RX11, TX11, 18, tyX11, rfl, by decide, hb_inX11, (hb_w 584 (by decide +kernel)), tyX11_ok, nmX11, rfl, fun h => Or.inr ⟨rfl, h, rfl⟩⟩
  · cases h
    exact ⟨RX11, TX11, 18, tyX11, rfl, by decide, hb_inX11, (hb_w 589 (by decide +kernel)), tyX11_ok, nmX11, rfl, fun h => Or.inr ⟨rfl, h, rfl⟩⟩
  · cases h
    exact ⟨RX11, TX11, 18, tyX11, rfl, by decide, hb_inX11, (hb_w 592 (by decide +kernel)), tyX11_ok, nmX11, rfl, fun h => Or.inr ⟨rfl, h, rfl⟩⟩
  · cases h
    exact ⟨RX11, TX11, 18, tyX11, rfl, by decide, hb_inX11, (hb_w 594 (by decide +kernel)), tyX11_ok, nmX11, rfl, fun h => Or.inr ⟨rfl, h, rfl⟩⟩
  · cases h
    exact ⟨RX11, TX11, 18, tyX11, rfl, by decide, hb_inX11, (hb_w 596 (by decide +kernel)), tyX11_ok, nmX11, rfl, fun h => Or.inr ⟨rfl, h, rfl⟩⟩
  · cases h
    exact ⟨RX11, TX11, 18, tyX11, rfl, by decide, hb_inX11, (hb_w 598 (by decide +kernel)), tyX11_ok, nmX11, rfl, fun h => Or.inr ⟨rfl, h, rfl⟩⟩
  · cases h
    exact ⟨RX11, TX11, 18, tyX11, rfl, by decide, hb_inX11, (hb_w 600 (by decide +kernel)), tyX11_ok, nmX11, rfl, fun h => Or.inr ⟨rfl, h, rfl⟩⟩
  · cases h
    exact ⟨RX11, TX11, 18, tyX11, rfl, by decide, hb_inX11, (hb_w 608 (by decide +kernel)), tyX11_ok, nmX11, rfl, fun _ => Or.inl rfl⟩
  · cases h
    exact ⟨RX11, TX11, 18, tyX11, rfl, by decide, hb_inX11, (hb_w 612 (by decide +kernel)), tyX11_ok, nmX11, rfl, fun h => Or.inr ⟨rfl, h, rfl⟩⟩
  · cases h
    exact ⟨RX5, TX5, 14, tyX5, rfl, by decide, hb_inX5, (hb_w 299 (by decide +kernel)), tyX5_ok, nmX5, rfl, fun _ => Or.inl rfl⟩
  · cases h
    exact ⟨RX1, TX1, 5, tyX1, rfl, by decide, hb_inX1, (hb_w 399 (by decide +kernel)), tyX1_ok, nmX1, rfl, fun _ => Or.inl rfl⟩
  · cases h
    exact ⟨RX11, TX11, 18, tyX11, rfl, by decide, hb_inX11, (hb_w 605 (by decide +kernel)), tyX11_ok, nmX11, rfl, fun _ => Or.inl rfl⟩
  · cases h
    exact ⟨RX2, TX2, 8, tyX2, rfl, by decide, hb_inX2, (hb_w 262 (by decide +kernel)), tyX2_ok, nmX2, rfl, fun h => by cases h⟩
  · cases h
    exact ⟨RX5, TX5, 14, tyX5, rfl, by decide, hb_inX5, (hb_w 305 (by decide +kernel)), tyX5_ok, nmX5, rfl, fun h => by cases h⟩
  · cases h
    exact ⟨RX5, TX5, 14, tyX5, rfl, by decide, hb_inX5, (hb_w 321 (by decide +kernel)), tyX5_ok, nmX5, rfl, fun h => by cases h⟩
  · cases h
def hb_C11 : ab_CT
  | 9 => some (3, [.null, .null, .null, .null, .int 0, .null, .null, .null])
  | 18 => some (6, [.int 0, .null, .null, .null, .null, .null, .null, .null, .null, .null, .null, .null, .null, .null])
  | 25 => some (2, [.null, .null, .null, .int 0, .int 0])
  | _ => none
theorem hb_C11_ok : ab_Cd RX11 hb_TB vwCl hb_C11 := by
  intro ix ci fs h
  unfold hb_C11 at h
  split at h
  · cases h
    exact ⟨RX2, TX2, 8, tyX2, rfl, hb_inX2, tyX2_ok, (hb_w 255 (by decide +kernel)), (hb_w 256 (by decide +kernel)), (hb_w 198 (by decide +kernel)), by decide +kernel, rfl, fun _ => rfl⟩
  · cases h
    exact ⟨RX5, TX5, 14, tyX5, rfl, hb_inX5, tyX5_ok, (hb_w 292 (by decide +kernel)), (hb_w 293 (by decide +kernel)), (hb_w 199 (by decide +kernel)), by decide +kernel, rfl, fun _ => rfl⟩
  · cases h
    exact ⟨RX1, TX1, 5, tyX1, rfl, hb_inX1, tyX1_ok, (hb_w 384 (by decide +kernel)), (hb_w 385 (by decide +kernel)), (hb_w 200 (by decide +kernel)), by decide +kernel, rfl, fun _ => rfl⟩
  · cases h
def hb_I11 : Nat → Option Int32
  | _ => none
theorem hb_I11_ok : ∀ ix v, hb_I11 ix = some v → Cond.constant RX11 ix v ∈ hb_TB := by
  intro ix v h
  unfold hb_I11 at h
  split at h
  · cases h
def hb_L11 : Nat → Option Int64
  | _ => none
theorem hb_L11_ok : ∀ ix v, hb_L11 ix = some v → Cond.constantLong RX11 ix v ∈ hb_TB := by
  intro ix v h
  unfold hb_L11 at h
  split at h
  · cases h
def hb_T11 : Nat → Option (Nat × Nat × Nat × Nat)
  | 3 => some (4, 0, 0, 0)
  | 11 => some (3, 512, 0, 0)
  | 20 => some (3, 1280, 0, 0)
  | 27 => some (3, 256, 0, 0)
  | 76 => some (1, 2056, 1, 0)
  | 82 => some (0, 2821, 3, 12)
  | 90 => some (0, 518, 2, 3)
  | 94 => some (0, 517, 1, 3)
  | 98 => some (0, 2825, 0, 12)
  | 104 => some (0, 2818, 3, 12)
  | 111 => some (0, 2820, 1, 12)
  | 121 => some (5, 0, 0, 0)
  | 134 => some (1, 11264, 2, 0)
  | 140 => some (0, 1281, 1, 6)
  | 143 => some (0, 2826, 1, 12)
  | 152 => some (0, 513, 2, 3)
  | 156 => some (1, 8961, 1, 0)
  | 162 => some (1, 8960, 1, 0)
  | _ => none
def hb_M11 : Nat → Option ab_MI
  | 0 => some (11, yX11_init, cX11_init, 1, none, true)
  | 1 => some (11, yX11_isKind, cX11_isKind, 2, (some .boolean), false)
  | 2 => some (11, yX11_find, cX11_find, 8, (some .int), false)
  | 3 => some (11, yX11_isTold, cX11_isTold, 5, (some .boolean), false)
  | 4 => some (11, yX11_isFull, cX11_isFull, 2, (some .boolean), false)
  | 5 => some (11, yX11_addName, cX11_addName, 7, none, false)
  | 6 => some (11, yX11_beginAnew, cX11_beginAnew, 1, none, false)
  | 7 => some (11, yX11_keep, cX11_keep, 1, none, false)
  | 8 => some (11, yX11_goBack, cX11_goBack, 1, none, false)
  | 9 => some (11, yX11_takeStock, cX11_takeStock, 2, none, false)
  | 10 => some (11, yX11_takeStockOf, cX11_takeStockOf, 9, none, false)
  | 11 => some (11, yX11_methodsOf, cX11_methodsOf, 2, (some .int), false)
  | 12 => some (11, yX11_listFor, cX11_listFor, 13, (some .int), false)
  | 13 => some (11, yX11_fits, cX11_fits, 5, (some .boolean), false)
  | _ => none
def hb_F12 (isI : Bool) : ab_FT
  | 10 => some (13, 0, (.object "DispatchHouse$World"), isI)
  | 21 => some (13, 1, (.object "DispatchHouse$Reader"), isI)
  | 28 => some (13, 2, (.object "DispatchHouse$Nearness"), isI)
  | 35 => some (13, 3, (.object "DispatchHouse$Lists"), isI)
  | 44 => some (13, 4, (.object "DispatchHouse$Whole"), isI)
  | 58 => some (13, 5, (.object "DispatchHouse$Machine"), isI)
  | 62 => some (13, 6, (.array .int), isI)
  | 66 => some (13, 7, (.array .int), isI)
  | 69 => some (13, 8, (.array .byte), true)
  | 73 => some (13, 12, .int, true)
  | 77 => some (13, 9, .int, true)
  | 109 => some (13, 13, .boolean, true)
  | 119 => some (12, 1, (.object "DispatchHouse$Methods"), false)
  | 123 => some (6, 0, .int, true)
  | 132 => some (6, 1, (.array .int), false)
  | 138 => some (13, 11, .int, true)
  | 141 => some (12, 15, .int, true)
  | 144 => some (12, 16, .int, true)
  | 148 => some (12, 3, (.array .int), false)
  | 151 => some (8, 2, .int, true)
  | 154 => some (13, 10, .int, true)
  | 160 => some (12, 0, (.object "DispatchHouse$Kinds"), false)
  | 170 => some (3, 2, (.array .int), false)
  | 177 => some (12, 6, (.array .int), false)
  | 207 => some (11, 5, (.array .int), false)
  | 217 => some (5, 11, .int, true)
  | 220 => some (5, 12, .boolean, true)
  | 223 => some (5, 13, .long, true)
  | 231 => some (5, 14, .int, true)
  | 234 => some (5, 16, .int, true)
  | 237 => some (5, 18, .int, true)
  | 240 => some (5, 1, (.object "DispatchHouse$Chooser"), false)
  | 244 => some (1, 4, .int, true)
  | 247 => some (5, 15, (.array .int), false)
  | 250 => some (5, 17, (.array .int), false)
  | _ => none
theorem hb_F12_ok (isI : Bool) : ab_Fd RX12 isI hb_TB vwCl (hb_F12 isI) := by
  intro ix ci k ty ok h
  unfold hb_F12 at h
  split at h
  · cases h
    exact ⟨RX12, TX12, 14, tyX12, rfl, by decide, hb_inX12, (hb_w 1003 (by decide +kernel)), tyX12_ok, nmX12, rfl, fun h => Or.inr ⟨rfl, h, rfl⟩⟩
  · cases h
    exact ⟨RX12, TX12, 14, tyX12, rfl, by decide, hb_inX12, (hb_w 1004 (by decide +kernel)), tyX12_ok, nmX12, rfl, fun h => Or.inr ⟨rfl, h, rfl⟩⟩
  · cases h
    exact ⟨RX12, TX12, 14, tyX12, rfl, by decide, hb_inX12, (hb_w 1005 (by decide +kernel)), tyX12_ok, nmX12, rfl, fun h => Or.inr ⟨rfl, h, rfl⟩⟩
  · cases h
    exact ⟨RX12, TX12, 14, tyX12, rfl, by decide, hb_inX12, (hb_w 1006 (by decide +kernel)), tyX12_ok, nmX12, rfl, fun h => Or.inr ⟨rfl, h, rfl⟩⟩
  · cases h
    exact ⟨RX12, TX12, 14, tyX12, rfl, by decide, hb_inX12, (hb_w 1007 (by decide +kernel)), tyX12_ok, nmX12, rfl, fun h => Or.inr ⟨rfl, h, rfl⟩⟩
  · cases h
    exact ⟨RX12, TX12, 14, tyX12, rfl, by decide, hb_inX12, (hb_w 1008 (by decide +kernel)), tyX12_ok, nmX12, rfl, fun h => Or.inr ⟨rfl, h, rfl⟩⟩
  · cases h
    exact ⟨RX12, TX12, 14, tyX12, rfl, by decide, hb_inX12, (hb_w 1009 (by decide +kernel)), tyX12_ok, nmX12, rfl, fun h => Or.inr ⟨rfl, h, rfl⟩⟩
  · cases h
    exact ⟨RX12, TX12, 14, tyX12, rfl, by decide, hb_inX12, (hb_w 1010 (by decide +kernel)), tyX12_ok, nmX12, rfl, fun h => Or.inr ⟨rfl, h, rfl⟩⟩
  · cases h
    exact ⟨RX12, TX12, 14, tyX12, rfl, by decide, hb_inX12, (hb_w 1011 (by decide +kernel)), tyX12_ok, nmX12, rfl, fun _ => Or.inl rfl⟩
  · cases h
    exact ⟨RX12, TX12, 14, tyX12, rfl, by decide, hb_inX12, (hb_w 1015 (by decide +kernel)), tyX12_ok, nmX12, rfl, fun _ => Or.inl rfl⟩
  · cases h
    exact ⟨RX12, TX12, 14, tyX12, rfl, by decide, hb_inX12, (hb_w 1012 (by decide +kernel)), tyX12_ok, nmX12, rfl, fun _ => Or.inl rfl⟩
  · cases h
    exact ⟨RX12, TX12, 14, tyX12, rfl, by decide, hb_inX12, (hb_w 1016 (by decide +kernel)), tyX12_ok, nmX12, rfl, fun _ => Or.inl rfl⟩
  · cases h
    exact ⟨RX11, TX11, 18, tyX11, rfl, by decide, hb_inX11, (hb_w 565 (by decide +kernel)), tyX11_ok, nmX11, rfl, fun h => by cases h⟩
  · cases h
    exact ⟨RX5, TX5, 14, tyX5, rfl, by decide, hb_inX5, (hb_w 300 (by decide +kernel)), tyX5_ok, nmX5, rfl, fun _ => Or.inl rfl⟩
  · cases h
    exact ⟨RX5, TX5, 14, tyX5, rfl, by decide, hb_inX5, (hb_w 304 (by decide +kernel)), tyX5_ok, nmX5, rfl, fun h => by cases h⟩
  · cases h
    exact ⟨RX12, TX12, 14, tyX12, rfl, by decide, hb_inX12, (hb_w 1014 (by decide +kernel)), tyX12_ok, nmX12, rfl, fun _ => Or.inl rfl⟩
  · cases h
    exact ⟨RX11, TX11, 18, tyX11, rfl, by decide, hb_inX11, (hb_w 607 (by decide +kernel)), tyX11_ok, nmX11, rfl, fun _ => Or.inl rfl⟩
  · cases h
    exact ⟨RX11, TX11, 18, tyX11, rfl, by decide, hb_inX11, (hb_w 611 (by decide +kernel)), tyX11_ok, nmX11, rfl, fun _ => Or.inl rfl⟩
  · cases h
    exact ⟨RX11, TX11, 18, tyX11, rfl, by decide, hb_inX11, (hb_w 573 (by decide +kernel)), tyX11_ok, nmX11, rfl, fun h => by cases h⟩
  · cases h
    exact ⟨RX7, TX7, 13, tyX7, rfl, by decide, hb_inX7, (hb_w 687 (by decide +kernel)), tyX7_ok, nmX7, rfl, fun _ => Or.inl rfl⟩
  · cases h
    exact ⟨RX12, TX12, 14, tyX12, rfl, by decide, hb_inX12, (hb_w 1013 (by decide +kernel)), tyX12_ok, nmX12, rfl, fun _ => Or.inl rfl⟩
  · cases h
    exact ⟨RX11, TX11, 18, tyX11, rfl, by decide, hb_inX11, (hb_w 557 (by decide +kernel)), tyX11_ok, nmX11, rfl, fun h => by cases h⟩
  · cases h
    exact ⟨RX2, TX2, 8, tyX2, rfl, by decide, hb_inX2, (hb_w 266 (by decide +kernel)), tyX2_ok, nmX2, rfl, fun h => by cases h⟩
  · cases h
    exact ⟨RX11, TX11, 18, tyX11, rfl, by decide, hb_inX11, (hb_w 582 (by decide +kernel)), tyX11_ok, nmX11, rfl, fun h => by cases h⟩
  · cases h
    exact ⟨RX10, TX10, 12, tyX10, rfl, by decide, hb_inX10, (hb_w 846 (by decide +kernel)), tyX10_ok, nmX10, rfl, fun h => by cases h⟩
  · cases h
    exact ⟨RX4, TX4, 19, tyX4, rfl, by decide, hb_inX4, (hb_w 949 (by decide +kernel)), tyX4_ok, nmX4, rfl, fun _ => Or.inl rfl⟩
  · cases h
    exact ⟨RX4, TX4, 19, tyX4, rfl, by decide, hb_inX4, (hb_w 951 (by decide +kernel)), tyX4_ok, nmX4, rfl, fun _ => Or.inl rfl⟩
  · cases h
    exact ⟨RX4, TX4, 19, tyX4, rfl, by decide, hb_inX4, (hb_w 953 (by decide +kernel)), tyX4_ok, nmX4, rfl, fun _ => Or.inl rfl⟩
  · cases h
    exact ⟨RX4, TX4, 19, tyX4, rfl, by decide, hb_inX4, (hb_w 955 (by decide +kernel)), tyX4_ok, nmX4, rfl, fun _ => Or.inl rfl⟩
  · cases h
    exact ⟨RX4, TX4, 19, tyX4, rfl, by decide, hb_inX4, (hb_w 959 (by decide +kernel)), tyX4_ok, nmX4, rfl, fun _ => Or.inl rfl⟩
  · cases h
    exact ⟨RX4, TX4, 19, tyX4, rfl, by decide, hb_inX4, (hb_w 963 (by decide +kernel)), tyX4_ok, nmX4, rfl, fun _ => Or.inl rfl⟩
  · cases h
    exact ⟨RX4, TX4, 19, tyX4, rfl, by decide, hb_inX4, (hb_w 938 (by decide +kernel)), tyX4_ok, nmX4, rfl, fun h => by cases h⟩
  · cases h
    exact ⟨RX0, TX0, 14, tyX0, rfl, by decide, hb_inX0, (hb_w 893 (by decide +kernel)), tyX0_ok, nmX0, rfl, fun _ => Or.inl rfl⟩
  · cases h
    exact ⟨RX4, TX4, 19, tyX4, rfl, by decide, hb_inX4, (hb_w 957 (by decide +kernel)), tyX4_ok, nmX4, rfl, fun h => by cases h⟩
  · cases h
    exact ⟨RX4, TX4, 19, tyX4, rfl, by decide, hb_inX4, (hb_w 961 (by decide +kernel)), tyX4_ok, nmX4, rfl, fun h => by cases h⟩
  · cases h
def hb_C12 : ab_CT
  | 7 => some (12, [.null, .null, .null, .null, .null, .null, .null, .null, .null, .null, .null, .null, .null, .null, .int 0, .int 0, .int 0, .null])
  | 16 => some (8, [.null, .null, .int 0, .int 0, .int 0, .int 0, .int 0, .int 0, .int 0, .int 0, .int 0, .int 0, .long 0])
  | 25 => some (7, [.null, .null, .null])
  | 32 => some (4, [.null, .null, .null, .null, .null, .null, .null, .null, .null, .null, .null, .int 0, .int 0])
  | 39 => some (11, [.null, .null, .null, .null, .null, .null, .null, .null, .null, .int 0, .null, .int 0])
  | 48 => some (5, [.null, .null, .null, .null, .null, .int 0, .int 0, .int 0, .int 0, .int 0, .long 0, .int 0, .int 0, .long 0, .int 0, .null, .int 0, .null, .int 0])
  | 50 => some (1, [.null, .null, .null, .int 0, .int 0, .null, .null, .null, .null, .null, .null, .int 0, .null, .null])
  | _ => none
theorem hb_C12_ok : ab_Cd RX12 hb_TB vwCl hb_C12 := by
  intro ix ci fs h
  unfold hb_C12 at h
  split at h
  · cases h
    exact ⟨RX11, TX11, 18, tyX11, rfl, hb_inX11, tyX11_ok, (hb_w 249 (by decide +kernel)), (hb_w 250 (by decide +kernel)), (hb_w 197 (by decide +kernel)), by decide +kernel, rfl, fun _ => rfl⟩
  · cases h
    exact ⟨RX7, TX7, 13, tyX7, rfl, hb_inX7, tyX7_ok, (hb_w 651 (by decide +kernel)), (hb_w 652 (by decide +kernel)), (hb_w 208 (by decide +kernel)), by decide +kernel, rfl, fun _ => rfl⟩
  · cases h
    exact ⟨RX6, TX6, 3, tyX6, rfl, hb_inX6, tyX6_ok, (hb_w 725 (by decide +kernel)), (hb_w 726 (by decide +kernel)), (hb_w 209 (by decide +kernel)), by decide +kernel, rfl, fun _ => rfl⟩
  · cases h
    exact ⟨RX3, TX3, 13, tyX3, rfl, hb_inX3, tyX3_ok, (hb_w 786 (by decide +kernel)), (hb_w 787 (by decide +kernel)), (hb_w 211 (by decide +kernel)), by decide +kernel, rfl, fun _ => rfl⟩
  · cases h
    exact ⟨RX10, TX10, 12, tyX10, rfl, hb_inX10, tyX10_ok, (hb_w 832 (by decide +kernel)), (hb_w 833 (by decide +kernel)), (hb_w 212 (by decide +kernel)), by decide +kernel, rfl, fun _ => rfl⟩
  · cases h
    exact ⟨RX4, TX4, 19, tyX4, rfl, hb_inX4, tyX4_ok, (hb_w 878 (by decide +kernel)), (hb_w 879 (by decide +kernel)), (hb_w 213 (by decide +kernel)), by decide +kernel, rfl, fun _ => rfl⟩
  · cases h
    exact ⟨RX0, TX0, 14, tyX0, rfl, hb_inX0, tyX0_ok, (hb_w 880 (by decide +kernel)), (hb_w 881 (by decide +kernel)), (hb_w 214 (by decide +kernel)), by decide +kernel, rfl, fun _ => rfl⟩
  · cases h
def hb_I12 : Nat → Option Int32
  | 147 => some (100000)
  | _ => none
theorem hb_I12_ok : ∀ ix v, hb_I12 ix = some v → Cond.constant RX12 ix v ∈ hb_TB := by
  intro ix v h
  unfold hb_I12 at h
  split at h
  · cases h
    exact (hb_w 1516 (by decide +kernel))
  · cases h
def hb_L12 : Nat → Option Int64
  | _ => none
theorem hb_L12_ok : ∀ ix v, hb_L12 ix = some v → Cond.constantLong RX12 ix v ∈ hb_TB := by
  intro ix v h
  unfold hb_L12 at h
  split at h
  · cases h
def hb_T12 : Nat → Option (Nat × Nat × Nat × Nat)
  | 1 => some (4, 0, 0, 0)
  | 9 => some (2, 2816, 0, 0)
  | 18 => some (2, 1792, 1, 0)
  | 27 => some (2, 1536, 1, 0)
  | 34 => some (2, 768, 1, 0)
  | 41 => some (2, 2560, 2, 0)
  | 52 => some (2, 0, 3, 0)
  | 55 => some (2, 1024, 2, 0)
  | 83 => some (1, 9217, 2, 0)
  | 89 => some (1, 11268, 2, 0)
  | 95 => some (0, 3074, 1, 13)
  | 102 => some (0, 1793, 2, 8)
  | 106 => some (0, 1794, 2, 8)
  | 113 => some (0, 2822, 0, 12)
  | 116 => some (0, 1537, 0, 7)
  | 128 => some (0, 1281, 1, 6)
  | 135 => some (0, 2825, 0, 12)
  | 157 => some (0, 2817, 1, 12)
  | 164 => some (0, 513, 2, 3)
  | 173 => some (0, 514, 3, 3)
  | 180 => some (0, 2829, 2, 12)
  | 184 => some (0, 1538, 3, 7)
  | 188 => some (0, 2827, 1, 12)
  | 192 => some (0, 769, 1, 4)
  | 195 => some (0, 770, 1, 4)
  | 198 => some (0, 771, 1, 4)
  | 201 => some (0, 772, 1, 4)
  | 204 => some (0, 2561, 1, 11)
  | 213 => some (0, 1027, 2, 5)
  | 227 => some (1, 1025, 1, 0)
  | 253 => some (5, 0, 0, 0)
  | 259 => some (0, 3091, 1, 13)
  | _ => none
def hb_M12 : Nat → Option ab_MI
  | 0 => some (12, yX12_init, cX12_init, 1, none, true)
  | 1 => some (12, yX12_feed, cX12_feed, 6, (some .int), false)
  | 2 => some (12, yX12_putOnTape, cX12_putOnTape, 3, none, false)
  | 3 => some (12, yX12_end, cX12_end, 2, (some .int), false)
  | 4 => some (12, yX12_tell, cX12_tell, 2, (some .int), false)
  | 5 => some (12, yX12_program, cX12_program, 2, (some .int), false)
  | 6 => some (12, yX12_clear, cX12_clear, 1, none, false)
  | 7 => some (12, yX12_drop, cX12_drop, 2, (some .boolean), false)
  | 8 => some (12, yX12_set, cX12_set, 4, (some .int), false)
  | 9 => some (12, yX12_count, cX12_count, 2, (some .int), false)
  | 10 => some (12, yX12_below, cX12_below, 3, (some .boolean), false)
  | 11 => some (12, yX12_row, cX12_row, 4, (some .int), false)
  | 12 => some (12, yX12_nearer, cX12_nearer, 8, (some .int), false)
  | 13 => some (12, yX12_call, cX12_call, 3, (some .int), false)
  | 14 => some (12, yX12_run, cX12_run, 1, (some .int), false)
  | 15 => some (12, yX12_told, cX12_told, 2, (some .int), false)
  | 16 => some (12, yX12_shown, cX12_shown, 2, (some .int), false)
  | 17 => some (12, yX12_ran, cX12_ran, 1, (some .int), false)
  | 18 => some (12, yX12_word, cX12_word, 5, (some .long), false)
  | 19 => some (12, yX12_byteOfResult, cX12_byteOfResult, 3, (some .int), false)
  | _ => none
def hb_F13 (isI : Bool) : ab_FT
  | 10 => some (14, 0, (.object "DispatchHouseModel$Name"), isI)
  | _ => none
theorem hb_F13_ok (isI : Bool) : ab_Fd RX13 isI hb_TB vwCl (hb_F13 isI) := by
  intro ix ci k ty ok h
  unfold hb_F13 at h
  split at h
  · cases h
    exact ⟨RX13, TX13, 4, tyX13, rfl, by decide, hb_inX13, (hb_w 2060 (by decide +kernel)), tyX13_ok, nmX13, rfl, fun h => Or.inr ⟨rfl, h, rfl⟩⟩
  · cases h
def hb_C13 : ab_CT
  | 7 => some (20, [.null, .int 0])
  | _ => none
theorem hb_C13_ok : ab_Cd RX13 hb_TB vwCl hb_C13 := by
  intro ix ci fs h
  unfold hb_C13 at h
  split at h
  · cases h
    exact ⟨RX19, TX19, 2, tyX19, rfl, hb_inX19, tyX19_ok, (hb_w 2058 (by decide +kernel)), (hb_w 2017 (by decide +kernel)), (hb_w 221 (by decide +kernel)), by decide +kernel, rfl, fun _ => rfl⟩
  · cases h
def hb_I13 : Nat → Option Int32
  | _ => none
theorem hb_I13_ok : ∀ ix v, hb_I13 ix = some v → Cond.constant RX13 ix v ∈ hb_TB := by
  intro ix v h
  unfold hb_I13 at h
  split at h
  · cases h
def hb_L13 : Nat → Option Int64
  | _ => none
theorem hb_L13_ok : ∀ ix v, hb_L13 ix = some v → Cond.constantLong RX13 ix v ∈ hb_TB := by
  intro ix v h
  unfold hb_L13 at h
  split at h
  · cases h
def hb_T13 : Nat → Option (Nat × Nat × Nat × Nat)
  | 1 => some (4, 0, 0, 0)
  | 9 => some (3, 4864, 0, 0)
  | _ => none
def hb_M13 : Nat → Option ab_MI
  | 0 => some (13, yX13_init, cX13_init, 1, none, true)
  | _ => none
def hb_F14 (isI : Bool) : ab_FT
  | 11 => some (15, 1, (.array (.array .int)), isI)
  | 16 => some (15, 2, (.array .int), isI)
  | 20 => some (15, 3, (.array .boolean), isI)
  | _ => none
theorem hb_F14_ok (isI : Bool) : ab_Fd RX14 isI hb_TB vwCl (hb_F14 isI) := by
  intro ix ci k ty ok h
  unfold hb_F14 at h
  split at h
  · cases h
    exact ⟨RX14, TX14, 4, tyX14, rfl, by decide, hb_inX14, (hb_w 2173 (by decide +kernel)), tyX14_ok, nmX14, rfl, fun h => Or.inr ⟨rfl, h, rfl⟩⟩
  · cases h
    exact ⟨RX14, TX14, 4, tyX14, rfl, by decide, hb_inX14, (hb_w 2175 (by decide +kernel)), tyX14_ok, nmX14, rfl, fun h => Or.inr ⟨rfl, h, rfl⟩⟩
  · cases h
    exact ⟨RX14, TX14, 4, tyX14, rfl, by decide, hb_inX14, (hb_w 2177 (by decide +kernel)), tyX14_ok, nmX14, rfl, fun h => Or.inr ⟨rfl, h, rfl⟩⟩
  · cases h
def hb_C14 : ab_CT
  | _ => none
theorem hb_C14_ok : ab_Cd RX14 hb_TB vwCl hb_C14 := by
  intro ix ci fs h
  unfold hb_C14 at h
  split at h
  · cases h
def hb_I14 : Nat → Option Int32
  | _ => none
theorem hb_I14_ok : ∀ ix v, hb_I14 ix = some v → Cond.constant RX14 ix v ∈ hb_TB := by
  intro ix v h
  unfold hb_I14 at h
  split at h
  · cases h
def hb_L14 : Nat → Option Int64
  | _ => none
theorem hb_L14_ok : ∀ ix v, hb_L14 ix = some v → Cond.constantLong RX14 ix v ∈ hb_TB := by
  intro ix v h
  unfold hb_L14 at h
  split at h
  · cases h
def hb_T14 : Nat → Option (Nat × Nat × Nat × Nat)
  | 3 => some (4, 0, 0, 0)
  | _ => none
def hb_M14 : Nat → Option ab_MI
  | 0 => some (14, yX14_init, cX14_init, 1, none, true)
  | _ => none
def hb_F15 (isI : Bool) : ab_FT
  | _ => none
theorem hb_F15_ok (isI : Bool) : ab_Fd RX15 isI hb_TB vwCl (hb_F15 isI) := by
  intro ix ci k ty ok h
  unfold hb_F15 at h
  split at h
  · cases h
def hb_C15 : ab_CT
  | _ => none
theorem hb_C15_ok : ab_Cd RX15 hb_TB vwCl hb_C15 := by
  intro ix ci fs h
  unfold hb_C15 at h
  split at h
  · cases h
def hb_I15 : Nat → Option Int32
  | _ => none
theorem hb_I15_ok : ∀ ix v, hb_I15 ix = some v → Cond.constant RX15 ix v ∈ hb_TB := by
  intro ix v h
  unfold hb_I15 at h
  split at h
  · cases h
def hb_L15 : Nat → Option Int64
  | _ => none
theorem hb_L15_ok : ∀ ix v, hb_L15 ix = some v → Cond.constantLong RX15 ix v ∈ hb_TB := by
  intro ix v h
  unfold hb_L15 at h
  split at h
  · cases h
def hb_T15 : Nat → Option (Nat × Nat × Nat × Nat)
  | _ => none
def hb_M15 : Nat → Option ab_MI
  | 0 => some (15, yX15_init, cX15_init, 1, none, true)
  | _ => none
def hb_F16 (isI : Bool) : ab_FT
  | _ => none
theorem hb_F16_ok (isI : Bool) : ab_Fd RX16 isI hb_TB vwCl (hb_F16 isI) := by
  intro ix ci k ty ok h
  unfold hb_F16 at h
  split at h
  · cases h
def hb_C16 : ab_CT
  | _ => none
theorem hb_C16_ok : ab_Cd RX16 hb_TB vwCl hb_C16 := by
  intro ix ci fs h
  unfold hb_C16 at h
  split at h
  · cases h
def hb_I16 : Nat → Option Int32
  | _ => none
theorem hb_I16_ok : ∀ ix v, hb_I16 ix = some v → Cond.constant RX16 ix v ∈ hb_TB := by
  intro ix v h
  unfold hb_I16 at h
  split at h
  · cases h
def hb_L16 : Nat → Option Int64
  | _ => none
theorem hb_L16_ok : ∀ ix v, hb_L16 ix = some v → Cond.constantLong RX16 ix v ∈ hb_TB := by
  intro ix v h
  unfold hb_L16 at h
  split at h
  · cases h
def hb_T16 : Nat → Option (Nat × Nat × Nat × Nat)
  | _ => none
def hb_M16 : Nat → Option ab_MI
  | 0 => some (16, yX16_init, cX16_init, 1, none, true)
  | _ => none
def hb_F17 (isI : Bool) : ab_FT
  | 12 => some (18, 0, (.object "DispatchHouseModel$Name"), isI)
  | 18 => some (18, 2, (.array .int), isI)
  | 24 => some (18, 4, (.array (.array .int)), isI)
  | 27 => some (18, 5, (.array .int), isI)
  | _ => none
theorem hb_F17_ok (isI : Bool) : ab_Fd RX17 isI hb_TB vwCl (hb_F17 isI) := by
  intro ix ci k ty ok h
  unfold hb_F17 at h
  split at h
  · cases h
    exact ⟨RX17, TX17, 6, tyX17, rfl, by decide, hb_inX17, (hb_w 2030 (by decide +kernel)), tyX17_ok, nmX17, rfl, fun h => Or.inr ⟨rfl, h, rfl⟩⟩
  · cases h
    exact ⟨RX17, TX17, 6, tyX17, rfl, by decide, hb_inX17, (hb_w 2033 (by decide +kernel)), tyX17_ok, nmX17, rfl, fun h => Or.inr ⟨rfl, h, rfl⟩⟩
  · cases h
    exact ⟨RX17, TX17, 6, tyX17, rfl, by decide, hb_inX17, (hb_w 2036 (by decide +kernel)), tyX17_ok, nmX17, rfl, fun h => Or.inr ⟨rfl, h, rfl⟩⟩
  · cases h
    exact ⟨RX17, TX17, 6, tyX17, rfl, by decide, hb_inX17, (hb_w 2038 (by decide +kernel)), tyX17_ok, nmX17, rfl, fun h => Or.inr ⟨rfl, h, rfl⟩⟩
  · cases h
def hb_C17 : ab_CT
  | 9 => some (20, [.null, .int 0])
  | _ => none
theorem hb_C17_ok : ab_Cd RX17 hb_TB vwCl hb_C17 := by
  intro ix ci fs h
  unfold hb_C17 at h
  split at h
  · cases h
    exact ⟨RX19, TX19, 2, tyX19, rfl, hb_inX19, tyX19_ok, (hb_w 2016 (by decide +kernel)), (hb_w 2017 (by decide +kernel)), (hb_w 221 (by decide +kernel)), by decide +kernel, rfl, fun _ => rfl⟩
  · cases h
def hb_I17 : Nat → Option Int32
  | _ => none
theorem hb_I17_ok : ∀ ix v, hb_I17 ix = some v → Cond.constant RX17 ix v ∈ hb_TB := by
  intro ix v h
  unfold hb_I17 at h
  split at h
  · cases h
def hb_L17 : Nat → Option Int64
  | _ => none
theorem hb_L17_ok : ∀ ix v, hb_L17 ix = some v → Cond.constantLong RX17 ix v ∈ hb_TB := by
  intro ix v h
  unfold hb_L17 at h
  split at h
  · cases h
def hb_T17 : Nat → Option (Nat × Nat × Nat × Nat)
  | 3 => some (4, 0, 0, 0)
  | 11 => some (3, 4864, 0, 0)
  | _ => none
def hb_M17 : Nat → Option ab_MI
  | 0 => some (17, yX17_init, cX17_init, 1, none, true)
  | 1 => some (17, yX17_place, cX17_place, 4, (some .int), false)
  | _ => none
def hb_F18 (isI : Bool) : ab_FT
  | 7 => some (19, 5, (.array .int), isI)
  | 13 => some (19, 6, (.array .int), isI)
  | 16 => some (19, 7, (.array .boolean), isI)
  | 20 => some (19, 8, (.object "DispatchHouseModel$Node"), true)
  | _ => none
theorem hb_F18_ok (isI : Bool) : ab_Fd RX18 isI hb_TB vwCl (hb_F18 isI) := by
  intro ix ci k ty ok h
  unfold hb_F18 at h
  split at h
  · cases h
    exact ⟨RX18, TX18, 11, tyX18, rfl, by decide, hb_inX18, (hb_w 2084 (by decide +kernel)), tyX18_ok, nmX18, rfl, fun h => Or.inr ⟨rfl, h, rfl⟩⟩
  · cases h
    exact ⟨RX18, TX18, 11, tyX18, rfl, by decide, hb_inX18, (hb_w 2086 (by decide +kernel)), tyX18_ok, nmX18, rfl, fun h => Or.inr ⟨rfl, h, rfl⟩⟩
  · cases h
    exact ⟨RX18, TX18, 11, tyX18, rfl, by decide, hb_inX18, (hb_w 2088 (by decide +kernel)), tyX18_ok, nmX18, rfl, fun h => Or.inr ⟨rfl, h, rfl⟩⟩
  · cases h
    exact ⟨RX18, TX18, 11, tyX18, rfl, by decide, hb_inX18, (hb_w 2090 (by decide +kernel)), tyX18_ok, nmX18, rfl, fun _ => Or.inl rfl⟩
  · cases h
def hb_C18 : ab_CT
  | _ => none
theorem hb_C18_ok : ab_Cd RX18 hb_TB vwCl hb_C18 := by
  intro ix ci fs h
  unfold hb_C18 at h
  split at h
  · cases h
def hb_I18 : Nat → Option Int32
  | _ => none
theorem hb_I18_ok : ∀ ix v, hb_I18 ix = some v → Cond.constant RX18 ix v ∈ hb_TB := by
  intro ix v h
  unfold hb_I18 at h
  split at h
  · cases h
def hb_L18 : Nat → Option Int64
  | _ => none
theorem hb_L18_ok : ∀ ix v, hb_L18 ix = some v → Cond.constantLong RX18 ix v ∈ hb_TB := by
  intro ix v h
  unfold hb_L18 at h
  split at h
  · cases h
def hb_T18 : Nat → Option (Nat × Nat × Nat × Nat)
  | 1 => some (4, 0, 0, 0)
  | _ => none
def hb_M18 : Nat → Option ab_MI
  | 0 => some (18, yX18_init, cX18_init, 1, none, true)
  | 1 => some (18, yX18_asks, cX18_asks, 3, (some .boolean), false)
  | _ => none
def hb_F19 (isI : Bool) : ab_FT
  | 7 => some (20, 0, (.array .byte), isI)
  | 13 => some (20, 1, .int, true)
  | _ => none
theorem hb_F19_ok (isI : Bool) : ab_Fd RX19 isI hb_TB vwCl (hb_F19 isI) := by
  intro ix ci k ty ok h
  unfold hb_F19 at h
  split at h
  · cases h
    exact ⟨RX19, TX19, 2, tyX19, rfl, by decide, hb_inX19, (hb_w 2022 (by decide +kernel)), tyX19_ok, nmX19, rfl, fun h => Or.inr ⟨rfl, h, rfl⟩⟩
  · cases h
    exact ⟨RX19, TX19, 2, tyX19, rfl, by decide, hb_inX19, (hb_w 2023 (by decide +kernel)), tyX19_ok, nmX19, rfl, fun _ => Or.inl rfl⟩
  · cases h
def hb_C19 : ab_CT
  | _ => none
theorem hb_C19_ok : ab_Cd RX19 hb_TB vwCl hb_C19 := by
  intro ix ci fs h
  unfold hb_C19 at h
  split at h
  · cases h
def hb_I19 : Nat → Option Int32
  | _ => none
theorem hb_I19_ok : ∀ ix v, hb_I19 ix = some v → Cond.constant RX19 ix v ∈ hb_TB := by
  intro ix v h
  unfold hb_I19 at h
  split at h
  · cases h
def hb_L19 : Nat → Option Int64
  | _ => none
theorem hb_L19_ok : ∀ ix v, hb_L19 ix = some v → Cond.constantLong RX19 ix v ∈ hb_TB := by
  intro ix v h
  unfold hb_L19 at h
  split at h
  · cases h
def hb_T19 : Nat → Option (Nat × Nat × Nat × Nat)
  | 1 => some (4, 0, 0, 0)
  | 17 => some (6, 9472, 0, 0)
  | 23 => some (6, 9473, 1, 0)
  | _ => none
def hb_M19 : Nat → Option ab_MI
  | 0 => some (19, yX19_init, cX19_init, 1, none, true)
  | 1 => some (19, yX19_be, cX19_be, 5, none, false)
  | 2 => some (19, yX19_be_, cX19_be_, 3, none, false)
  | 3 => some (19, yX19_is, cX19_is, 5, (some .boolean), false)
  | _ => none
def hb_F20 (isI : Bool) : ab_FT
  | 7 => some (21, 0, .int, true)
  | 13 => some (21, 1, .int, true)
  | 16 => some (21, 2, .int, true)
  | 19 => some (21, 3, .int, true)
  | 22 => some (21, 4, .int, true)
  | 25 => some (21, 5, (.object "DispatchHouseModel$Node"), true)
  | 29 => some (21, 6, (.object "DispatchHouseModel$Node"), true)
  | 32 => some (21, 7, (.object "DispatchHouseModel$Node"), true)
  | 35 => some (21, 8, (.object "DispatchHouseModel$Node"), true)
  | 38 => some (21, 9, .int, true)
  | 41 => some (21, 10, .int, true)
  | 44 => some (21, 11, .long, true)
  | _ => none
theorem hb_F20_ok (isI : Bool) : ab_Fd RX20 isI hb_TB vwCl (hb_F20 isI) := by
  intro ix ci k ty ok h
  unfold hb_F20 at h
  split at h
  · cases h
    exact ⟨RX20, TX20, 12, tyX20, rfl, by decide, hb_inX20, (hb_w 2812 (by decide +kernel)), tyX20_ok, nmX20, rfl, fun _ => Or.inl rfl⟩
  · cases h
    exact ⟨RX20, TX20, 12, tyX20, rfl, by decide, hb_inX20, (hb_w 2814 (by decide +kernel)), tyX20_ok, nmX20, rfl, fun _ => Or.inl rfl⟩
  · cases h
    exact ⟨RX20, TX20, 12, tyX20, rfl, by decide, hb_inX20, (hb_w 2816 (by decide +kernel)), tyX20_ok, nmX20, rfl, fun _ => Or.inl rfl⟩
  · cases h
    exact ⟨RX20, TX20, 12, tyX20, rfl, by decide, hb_inX20, (hb_w 2818 (by decide +kernel)), tyX20_ok, nmX20, rfl, fun _ => Or.inl rfl⟩
  · cases h
    exact ⟨RX20, TX20, 12, tyX20, rfl, by decide, hb_inX20, (hb_w 2820 (by decide +kernel)), tyX20_ok, nmX20, rfl, fun _ => Or.inl rfl⟩
  · cases h
    exact ⟨RX20, TX20, 12, tyX20, rfl, by decide, hb_inX20, (hb_w 2822 (by decide +kernel)), tyX20_ok, nmX20, rfl, fun _ => Or.inl rfl⟩
  · cases h
    exact ⟨RX20, TX20, 12, tyX20, rfl, by decide, hb_inX20, (hb_w 2824 (by decide +kernel)), tyX20_ok, nmX20, rfl, fun _ => Or.inl rfl⟩
  · cases h
    exact ⟨RX20, TX20, 12, tyX20, rfl, by decide, hb_inX20, (hb_w 2826 (by decide +kernel)), tyX20_ok, nmX20, rfl, fun _ => Or.inl rfl⟩
  · cases h
    exact ⟨RX20, TX20, 12, tyX20, rfl, by decide, hb_inX20, (hb_w 2828 (by decide +kernel)), tyX20_ok, nmX20, rfl, fun _ => Or.inl rfl⟩
  · cases h
    exact ⟨RX20, TX20, 12, tyX20, rfl, by decide, hb_inX20, (hb_w 2830 (by decide +kernel)), tyX20_ok, nmX20, rfl, fun _ => Or.inl rfl⟩
  · cases h
    exact ⟨RX20, TX20, 12, tyX20, rfl, by decide, hb_inX20, (hb_w 2832 (by decide +kernel)), tyX20_ok, nmX20, rfl, fun _ => Or.inl rfl⟩
  · cases h
    exact ⟨RX20, TX20, 12, tyX20, rfl, by decide, hb_inX20, (hb_w 2834 (by decide +kernel)), tyX20_ok, nmX20, rfl, fun _ => Or.inl rfl⟩
  · cases h
def hb_C20 : ab_CT
  | _ => none
theorem hb_C20_ok : ab_Cd RX20 hb_TB vwCl hb_C20 := by
  intro ix ci fs h
  unfold hb_C20 at h
  split at h
  · cases h
def hb_I20 : Nat → Option Int32
  | _ => none
theorem hb_I20_ok : ∀ ix v, hb_I20 ix = some v → Cond.constant RX20 ix v ∈ hb_TB := by
  intro ix v h
  unfold hb_I20 at h
  split at h
  · cases h
def hb_L20 : Nat → Option Int64
  | _ => none
theorem hb_L20_ok : ∀ ix v, hb_L20 ix = some v → Cond.constantLong RX20 ix v ∈ hb_TB := by
  intro ix v h
  unfold hb_L20 at h
  split at h
  · cases h
def hb_T20 : Nat → Option (Nat × Nat × Nat × Nat)
  | 1 => some (4, 0, 0, 0)
  | _ => none
def hb_M20 : Nat → Option ab_MI
  | 0 => some (20, yX20_init, cX20_init, 1, none, true)
  | 1 => some (20, yX20_be, cX20_be, 2, (some (.object "DispatchHouseModel$Node")), false)
  | _ => none
def hb_F21 (isI : Bool) : ab_FT
  | 10 => some (22, 0, (.object "java/util/ArrayList"), isI)
  | 16 => some (22, 1, .int, true)
  | _ => none
theorem hb_F21_ok (isI : Bool) : ab_Fd RX21 isI hb_TB vwCl (hb_F21 isI) := by
  intro ix ci k ty ok h
  unfold hb_F21 at h
  split at h
  · cases h
    exact ⟨RX21, TX21, 2, tyX21, rfl, by decide, hb_inX21, (hb_w 2000 (by decide +kernel)), tyX21_ok, nmX21, rfl, fun h => Or.inr ⟨rfl, h, rfl⟩⟩
  · cases h
    exact ⟨RX21, TX21, 2, tyX21, rfl, by decide, hb_inX21, (hb_w 2001 (by decide +kernel)), tyX21_ok, nmX21, rfl, fun _ => Or.inl rfl⟩
  · cases h
def hb_C21 : ab_CT
  | 7 => some (0, [.int 0, .null, .int 0])
  | 24 => some (21, [.int 0, .int 0, .int 0, .int 0, .int 0, .null, .null, .null, .null, .int 0, .int 0, .long 0])
  | _ => none
theorem hb_C21_ok : ab_Cd RX21 hb_TB vwCl hb_C21 := by
  intro ix ci fs h
  unfold hb_C21 at h
  split at h
  · cases h
    exact ⟨RJx4a65c, TJx4a65c, 3, tyJx4a65c, rfl, hb_inJx4a65c, tyJx4a65c_ok, (hb_w 1974 (by decide +kernel)), (hb_w 1975 (by decide +kernel)), (hb_w 219 (by decide +kernel)), by decide +kernel, rfl, fun _ => rfl⟩
  · cases h
    exact ⟨RX20, TX20, 12, tyX20, rfl, hb_inX20, tyX20_ok, (hb_w 2806 (by decide +kernel)), (hb_w 2807 (by decide +kernel)), (hb_w 236 (by decide +kernel)), by decide +kernel, rfl, fun _ => rfl⟩
  · cases h
def hb_I21 : Nat → Option Int32
  | _ => none
theorem hb_I21_ok : ∀ ix v, hb_I21 ix = some v → Cond.constant RX21 ix v ∈ hb_TB := by
  intro ix v h
  unfold hb_I21 at h
  split at h
  · cases h
def hb_L21 : Nat → Option Int64
  | _ => none
theorem hb_L21_ok : ∀ ix v, hb_L21 ix = some v → Cond.constantLong RX21 ix v ∈ hb_TB := by
  intro ix v h
  unfold hb_L21 at h
  split at h
  · cases h
def hb_T21 : Nat → Option (Nat × Nat × Nat × Nat)
  | 1 => some (4, 0, 0, 0)
  | 9 => some (2, 11008, 0, 0)
  | 20 => some (0, 11011, 0, 0)
  | 26 => some (3, 5120, 0, 0)
  | 27 => some (0, 11015, 1, 0)
  | 31 => some (0, 11013, 1, 0)
  | 35 => some (0, 5121, 1, 21)
  | _ => none
def hb_M21 : Nat → Option ab_MI
  | 0 => some (21, yX21_init, cX21_init, 1, none, true)
  | 1 => some (21, yX21_get, cX21_get, 2, (some (.object "DispatchHouseModel$Node")), false)
  | _ => none
def hb_F22 (isI : Bool) : ab_FT
  | 7 => some (23, 6, .int, isI)
  | _ => none
theorem hb_F22_ok (isI : Bool) : ab_Fd RX22 isI hb_TB vwCl (hb_F22 isI) := by
  intro ix ci k ty ok h
  unfold hb_F22 at h
  split at h
  · cases h
    exact ⟨RX22, TX22, 7, tyX22, rfl, by decide, hb_inX22, (hb_w 2712 (by decide +kernel)), tyX22_ok, nmX22, rfl, fun h => Or.inr ⟨rfl, h, rfl⟩⟩
  · cases h
def hb_C22 : ab_CT
  | _ => none
theorem hb_C22_ok : ab_Cd RX22 hb_TB vwCl hb_C22 := by
  intro ix ci fs h
  unfold hb_C22 at h
  split at h
  · cases h
def hb_I22 : Nat → Option Int32
  | _ => none
theorem hb_I22_ok : ∀ ix v, hb_I22 ix = some v → Cond.constant RX22 ix v ∈ hb_TB := by
  intro ix v h
  unfold hb_I22 at h
  split at h
  · cases h
def hb_L22 : Nat → Option Int64
  | _ => none
theorem hb_L22_ok : ∀ ix v, hb_L22 ix = some v → Cond.constantLong RX22 ix v ∈ hb_TB := by
  intro ix v h
  unfold hb_L22 at h
  split at h
  · cases h
def hb_T22 : Nat → Option (Nat × Nat × Nat × Nat)
  | _ => none
def hb_M22 : Nat → Option ab_MI
  | 0 => some (22, yX22_init, cX22_init, 2, none, true)
  | _ => none
def hb_F23 (isI : Bool) : ab_FT
  | 1 => some (24, 14, (.array .byte), isI)
  | 13 => some (24, 4, .int, true)
  | 17 => some (24, 0, (.array (.object "DispatchHouseModel$Kind")), isI)
  | 21 => some (18, 0, (.object "DispatchHouseModel$Name"), false)
  | 31 => some (24, 5, .int, true)
  | 34 => some (24, 1, (.array (.object "DispatchHouseModel$Call")), isI)
  | 38 => some (14, 0, (.object "DispatchHouseModel$Name"), false)
  | 41 => some (24, 7, .int, true)
  | 44 => some (24, 3, (.array (.object "DispatchHouseModel$Name")), isI)
  | 66 => some (18, 3, .int, true)
  | 69 => some (18, 2, (.array .int), false)
  | 73 => some (24, 12, (.array .int), isI)
  | 76 => some (24, 13, (.array .int), isI)
  | 79 => some (18, 5, (.array .int), false)
  | 82 => some (24, 11, (.array (.array .int)), isI)
  | 86 => some (18, 4, (.array (.array .int)), false)
  | 99 => some (24, 26, .int, true)
  | 106 => some (24, 18, .int, true)
  | 177 => some (24, 16, .int, true)
  | 180 => some (24, 15, .int, true)
  | 183 => some (24, 17, .int, true)
  | 197 => some (24, 25, (.object "java/lang/String"), true)
  | 213 => some (24, 19, .int, true)
  | 244 => some (24, 27, .int, true)
  | 247 => some (24, 23, .int, true)
  | 250 => some (24, 24, .int, true)
  | 253 => some (24, 20, .int, true)
  | 256 => some (24, 21, .int, true)
  | 282 => some (24, 28, (.object "DispatchHouseModel$Kind"), isI)
  | 290 => some (18, 1, .boolean, true)
  | 299 => some (24, 29, (.object "DispatchHouseModel$Call"), isI)
  | 303 => some (14, 1, .int, true)
  | 306 => some (14, 2, .int, true)
  | 309 => some (14, 3, .int, true)
  | 312 => some (24, 6, .int, true)
  | 315 => some (24, 2, (.array (.object "DispatchHouseModel$Method")), isI)
  | 319 => some (24, 30, (.object "DispatchHouseModel$Method"), isI)
  | 323 => some (19, 0, .int, true)
  | 327 => some (19, 3, .int, true)
  | 330 => some (19, 10, .boolean, true)
  | 333 => some (19, 2, .int, true)
  | 335 => some (19, 8, (.object "DispatchHouseModel$Node"), true)
  | 339 => some (24, 32, .int, true)
  | 346 => some (19, 1, .int, true)
  | 349 => some (24, 8, (.object "DispatchHouseModel$Nodes"), isI)
  | 353 => some (24, 34, (.object "DispatchHouseModel$Nodes"), true)
  | 356 => some (24, 22, .int, true)
  | 362 => some (19, 4, .int, true)
  | 365 => some (19, 7, (.array .boolean), false)
  | 369 => some (24, 33, .int, true)
  | 375 => some (19, 9, (.object "DispatchHouseModel$Node"), true)
  | 382 => some (24, 31, (.array .int), isI)
  | 391 => some (19, 5, (.array .int), false)
  | 393 => some (19, 6, (.array .int), false)
  | 409 => some (21, 5, (.object "DispatchHouseModel$Node"), true)
  | 414 => some (21, 6, (.object "DispatchHouseModel$Node"), true)
  | 432 => some (21, 0, .int, true)
  | 435 => some (21, 2, .int, true)
  | 438 => some (21, 1, .int, true)
  | 439 => some (21, 9, .int, true)
  | 445 => some (21, 11, .long, true)
  | 449 => some (21, 3, .int, true)
  | 450 => some (21, 10, .int, true)
  | 463 => some (21, 7, (.object "DispatchHouseModel$Node"), true)
  | 476 => some (21, 8, (.object "DispatchHouseModel$Node"), true)
  | 479 => some (21, 4, .int, true)
  | 487 => some (24, 41, .int, true)
  | 490 => some (24, 36, (.array (.array .boolean)), isI)
  | 497 => some (24, 40, (.array .int), isI)
  | 500 => some (24, 37, (.array (.array .long)), isI)
  | 504 => some (24, 38, (.array .int), isI)
  | 507 => some (24, 39, (.array .int), isI)
  | 510 => some (24, 35, (.array (.array (.array (.array .long)))), isI)
  | 514 => some (24, 57, (.array (.array .long)), isI)
  | 517 => some (24, 58, (.array (.array .long)), isI)
  | 523 => some (24, 42, (.array .int), isI)
  | 526 => some (24, 47, .int, true)
  | 529 => some (24, 43, (.array .int), isI)
  | 532 => some (24, 45, (.array .long), isI)
  | 543 => some (24, 51, (.array .int), true)
  | 546 => some (24, 50, .int, true)
  | 549 => some (24, 49, (.array .int), isI)
  | 552 => some (24, 52, (.array .boolean), isI)
  | 557 => some (24, 46, (.array (.array .long)), isI)
  | 560 => some (24, 54, .int, true)
  | 566 => some (24, 48, .int, true)
  | 569 => some (24, 53, .int, true)
  | 586 => some (24, 44, (.array .int), isI)
  | 598 => some (24, 55, (.array .int), isI)
  | 601 => some (24, 56, (.array .byte), isI)
  | 612 => some (24, 83, .int, true)
  | 624 => some (24, 60, (.array .int), isI)
  | 627 => some (24, 59, (.array (.array .int)), isI)
  | 638 => some (24, 63, (.array .boolean), isI)
  | 641 => some (24, 61, (.array .long), isI)
  | 644 => some (24, 62, (.array .long), isI)
  | 661 => some (24, 64, .long, true)
  | 664 => some (24, 65, .long, true)
  | 667 => some (24, 66, .long, true)
  | 670 => some (24, 67, .long, true)
  | 683 => some (24, 82, .int, true)
  | 694 => some (24, 68, .long, true)
  | 709 => some (24, 75, .int, true)
  | 711 => some (24, 74, .int, true)
  | 714 => some (24, 72, (.array .int), isI)
  | 720 => some (15, 0, .int, true)
  | 723 => some (15, 2, (.array .int), false)
  | 726 => some (15, 3, (.array .boolean), false)
  | 729 => some (24, 73, .int, true)
  | 732 => some (24, 71, (.array .int), isI)
  | 742 => some (15, 1, (.array (.array .int)), false)
  | 748 => some (24, 78, .long, true)
  | 751 => some (24, 76, (.object "DispatchHouseModel$Failed"), isI)
  | 755 => some (24, 79, .int, true)
  | 758 => some (24, 77, (.object "DispatchHouseModel$Ended"), isI)
  | 762 => some (24, 80, .int, true)
  | 765 => some (24, 81, .int, true)
  | 779 => some (24, 90, (.array (.array .long)), isI)
  | 782 => some (24, 87, .int, true)
  | 787 => some (24, 70, .int, true)
  | 792 => some (24, 85, .int, true)
  | 795 => some (24, 88, (.array .int), isI)
  | 816 => some (24, 94, (.array .int), isI)
  | 819 => some (24, 95, (.array .int), isI)
  | 822 => some (24, 84, .int, true)
  | 828 => some (24, 69, (.array (.object "DispatchHouseModel$Choice")), isI)
  | 859 => some (24, 86, .int, true)
  | 862 => some (24, 89, (.array .int), isI)
  | 865 => some (24, 91, (.array (.object "DispatchHouseModel$Method")), isI)
  | 868 => some (24, 92, (.array (.object "DispatchHouseModel$Choice")), isI)
  | 871 => some (24, 93, (.array .int), isI)
  | 879 => some (24, 96, .boolean, true)
  | 882 => some (24, 97, .long, true)
  | 885 => some (24, 10, (.object "DispatchHouseModel$Node"), true)
  | 890 => some (24, 98, .int, true)
  | 893 => some (24, 99, (.array .int), isI)
  | 896 => some (24, 106, .int, true)
  | 903 => some (24, 100, (.array .int), isI)
  | 909 => some (24, 108, .int, true)
  | 916 => some (24, 102, .int, true)
  | 919 => some (24, 107, .int, true)
  | 922 => some (24, 101, (.array .int), isI)
  | 928 => some (24, 105, (.array .int), isI)
  | 935 => some (24, 109, (.array .boolean), isI)
  | 942 => some (24, 103, (.array .int), isI)
  | 949 => some (24, 104, (.array .int), isI)
  | 957 => some (24, 9, (.object "DispatchHouseModel$Nodes"), isI)
  | 972 => some (24, 113, (.array .byte), true)
  | 975 => some (24, 114, (.array .int), isI)
  | 983 => some (22, 1, .int, true)
  | 1000 => some (24, 110, .int, true)
  | 1010 => some (24, 112, .int, true)
  | 1013 => some (23, 6, .int, false)
  | 1015 => some (24, 111, .int, true)
  | _ => none
theorem hb_F23_ok (isI : Bool) : ab_Fd RX23 isI hb_TB vwCl (hb_F23 isI) := by
  intro ix ci k ty ok h
  unfold hb_F23 at h
  split at h
  · cases h
    exact ⟨RX23, TX23, 115, tyX23, rfl, by decide, hb_inX23, (hb_w 2247 (by decide +kernel)), tyX23_ok, nmX23, rfl, fun h => Or.inr ⟨rfl, h, rfl⟩⟩
  · cases h
    exact ⟨RX23, TX23, 115, tyX23, rfl, by decide, hb_inX23, (hb_w 2237 (by decide +kernel)), tyX23_ok, nmX23, rfl, fun _ => Or.inl rfl⟩
  · cases h
    exact ⟨RX23, TX23, 115, tyX23, rfl, by decide, hb_inX23, (hb_w 2233 (by decide +kernel)), tyX23_ok, nmX23, rfl, fun h => Or.inr ⟨rfl, h, rfl⟩⟩
  · cases h
    exact ⟨RX17, TX17, 6, tyX17, rfl, by decide, hb_inX17, (hb_w 2031 (by decide +kernel)), tyX17_ok, nmX17, rfl, fun h => by cases h⟩
  · cases h
    exact ⟨RX23, TX23, 115, tyX23, rfl, by decide, hb_inX23, (hb_w 2238 (by decide +kernel)), tyX23_ok, nmX23, rfl, fun _ => Or.inl rfl⟩
  · cases h
    exact ⟨RX23, TX23, 115, tyX23, rfl, by decide, hb_inX23, (hb_w 2234 (by decide +kernel)), tyX23_ok, nmX23, rfl, fun h => Or.inr ⟨rfl, h, rfl⟩⟩
  · cases h
    exact ⟨RX13, TX13, 4, tyX13, rfl, by decide, hb_inX13, (hb_w 2061 (by decide +kernel)), tyX13_ok, nmX13, rfl, fun h => by cases h⟩
  · cases h
    exact ⟨RX23, TX23, 115, tyX23, rfl, by decide, hb_inX23, (hb_w 2240 (by decide +kernel)), tyX23_ok, nmX23, rfl, fun _ => Or.inl rfl⟩
  · cases h
    exact ⟨RX23, TX23, 115, tyX23, rfl, by decide, hb_inX23, (hb_w 2236 (by decide +kernel)), tyX23_ok, nmX23, rfl, fun h => Or.inr ⟨rfl, h, rfl⟩⟩
  · cases h
    exact ⟨RX17, TX17, 6, tyX17, rfl, by decide, hb_inX17, (hb_w 2035 (by decide +kernel)), tyX17_ok, nmX17, rfl, fun _ => Or.inl rfl⟩
  · cases h
    exact ⟨RX17, TX17, 6, tyX17, rfl, by decide, hb_inX17, (hb_w 2034 (by decide +kernel)), tyX17_ok, nmX17, rfl, fun h => by cases h⟩
  · cases h
    exact ⟨RX23, TX23, 115, tyX23, rfl, by decide, hb_inX23, (hb_w 2245 (by decide +kernel)), tyX23_ok, nmX23, rfl, fun h => Or.inr ⟨rfl, h, rfl⟩⟩
  · cases h
    exact ⟨RX23, TX23, 115, tyX23, rfl, by decide, hb_inX23, (hb_w 2246 (by decide +kernel)), tyX23_ok, nmX23, rfl, fun h => Or.inr ⟨rfl, h, rfl⟩⟩
  · cases h
    exact ⟨RX17, TX17, 6, tyX17, rfl, by decide, hb_inX17, (hb_w 2039 (by decide +kernel)), tyX17_ok, nmX17, rfl, fun h => by cases h⟩
  · cases h
    exact ⟨RX23, TX23, 115, tyX23, rfl, by decide, hb_inX23, (hb_w 2244 (by decide +kernel)), tyX23_ok, nmX23, rfl, fun h => Or.inr ⟨rfl, h, rfl⟩⟩
  · cases h
    exact ⟨RX17, TX17, 6, tyX17, rfl, by decide, hb_inX17, (hb_w 2037 (by decide +kernel)), tyX17_ok, nmX17, rfl, fun h => by cases h⟩
  · cases h
    exact ⟨RX23, TX23, 115, tyX23, rfl, by decide, hb_inX23, (hb_w 2259 (by decide +kernel)), tyX23_ok, nmX23, rfl, fun _ => Or.inl rfl⟩
  · cases h
    exact ⟨RX23, TX23, 115, tyX23, rfl, by decide, hb_inX23, (hb_w 2251 (by decide +kernel)), tyX23_ok, nmX23, rfl, fun _ => Or.inl rfl⟩
  · cases h
    exact ⟨RX23, TX23, 115, tyX23, rfl, by decide, hb_inX23, (hb_w 2249 (by decide +kernel)), tyX23_ok, nmX23, rfl, fun _ => Or.inl rfl⟩
  · cases h
    exact ⟨RX23, TX23, 115, tyX23, rfl, by decide, hb_inX23, (hb_w 2248 (by decide +kernel)), tyX23_ok, nmX23, rfl, fun _ => Or.inl rfl⟩
  · cases h
    exact ⟨RX23, TX23, 115, tyX23, rfl, by decide, hb_inX23, (hb_w 2250 (by decide +kernel)), tyX23_ok, nmX23, rfl, fun _ => Or.inl rfl⟩
  · cases h
    exact ⟨RX23, TX23, 115, tyX23, rfl, by decide, hb_inX23, (hb_w 2258 (by decide +kernel)), tyX23_ok, nmX23, rfl, fun _ => Or.inl rfl⟩
  · cases h
    exact ⟨RX23, TX23, 115, tyX23, rfl, by decide, hb_inX23, (hb_w 2252 (by decide +kernel)), tyX23_ok, nmX23, rfl, fun _ => Or.inl rfl⟩
  · cases h
    exact ⟨RX23, TX23, 115, tyX23, rfl, by decide, hb_inX23, (hb_w 2260 (by decide +kernel)), tyX23_ok, nmX23, rfl, fun _ => Or.inl rfl⟩
  · cases h
    exact ⟨RX23, TX23, 115, tyX23, rfl, by decide, hb_inX23, (hb_w 2256 (by decide +kernel)), tyX23_ok, nmX23, rfl, fun _ => Or.inl rfl⟩
  · cases h
    exact ⟨RX23, TX23, 115, tyX23, rfl, by decide, hb_inX23, (hb_w 2257 (by decide +kernel)), tyX23_ok, nmX23, rfl, fun _ => Or.inl rfl⟩
  · cases h
    exact ⟨RX23, TX23, 115, tyX23, rfl, by decide, hb_inX23, (hb_w 2253 (by decide +kernel)), tyX23_ok, nmX23, rfl, fun _ => Or.inl rfl⟩
  · cases h
    exact ⟨RX23, TX23, 115, tyX23, rfl, by decide, hb_inX23, (hb_w 2254 (by decide +kernel)), tyX23_ok, nmX23, rfl, fun _ => Or.inl rfl⟩
  · cases h
    exact ⟨RX23, TX23, 115, tyX23, rfl, by decide, hb_inX23, (hb_w 2261 (by decide +kernel)), tyX23_ok, nmX23, rfl, fun h => Or.inr ⟨rfl, h, rfl⟩⟩
  · cases h
    exact ⟨RX17, TX17, 6, tyX17, rfl, by decide, hb_inX17, (hb_w 2032 (by decide +kernel)), tyX17_ok, nmX17, rfl, fun _ => Or.inl rfl⟩
  · cases h
    exact ⟨RX23, TX23, 115, tyX23, rfl, by decide, hb_inX23, (hb_w 2262 (by decide +kernel)), tyX23_ok, nmX23, rfl, fun h => Or.inr ⟨rfl, h, rfl⟩⟩
  · cases h
    exact ⟨RX13, TX13, 4, tyX13, rfl, by decide, hb_inX13, (hb_w 2062 (by decide +kernel)), tyX13_ok, nmX13, rfl, fun _ => Or.inl rfl⟩
  · cases h
    exact ⟨RX13, TX13, 4, tyX13, rfl, by decide, hb_inX13, (hb_w 2063 (by decide +kernel)), tyX13_ok, nmX13, rfl, fun _ => Or.inl rfl⟩
  · cases h
    exact ⟨RX13, TX13, 4, tyX13, rfl, by decide, hb_inX13, (hb_w 2064 (by decide +kernel)), tyX13_ok, nmX13, rfl, fun _ => Or.inl rfl⟩
  · cases h
    exact ⟨RX23, TX23, 115, tyX23, rfl, by decide, hb_inX23, (hb_w 2239 (by decide +kernel)), tyX23_ok, nmX23, rfl, fun _ => Or.inl rfl⟩
  · cases h
    exact ⟨RX23, TX23, 115, tyX23, rfl, by decide, hb_inX23, (hb_w 2235 (by decide +kernel)), tyX23_ok, nmX23, rfl, fun h => Or.inr ⟨rfl, h, rfl⟩⟩
  · cases h
    exact ⟨RX23, TX23, 115, tyX23, rfl, by decide, hb_inX23, (hb_w 2263 (by decide +kernel)), tyX23_ok, nmX23, rfl, fun h => Or.inr ⟨rfl, h, rfl⟩⟩
  · cases h
    exact ⟨RX18, TX18, 11, tyX18, rfl, by decide, hb_inX18, (hb_w 2079 (by decide +kernel)), tyX18_ok, nmX18, rfl, fun _ => Or.inl rfl⟩
  · cases h
    exact ⟨RX18, TX18, 11, tyX18, rfl, by decide, hb_inX18, (hb_w 2082 (by decide +kernel)), tyX18_ok, nmX18, rfl, fun _ => Or.inl rfl⟩
  · cases h
    exact ⟨RX18, TX18, 11, tyX18, rfl, by decide, hb_inX18, (hb_w 2093 (by decide +kernel)), tyX18_ok, nmX18, rfl, fun _ => Or.inl rfl⟩
  · cases h
    exact ⟨RX18, TX18, 11, tyX18, rfl, by decide, hb_inX18, (hb_w 2081 (by decide +kernel)), tyX18_ok, nmX18, rfl, fun _ => Or.inl rfl⟩
  · cases h
    exact ⟨RX18, TX18, 11, tyX18, rfl, by decide, hb_inX18, (hb_w 2091 (by decide +kernel)), tyX18_ok, nmX18, rfl, fun _ => Or.inl rfl⟩
  · cases h
    exact ⟨RX23, TX23, 115, tyX23, rfl, by decide, hb_inX23, (hb_w 2265 (by decide +kernel)), tyX23_ok, nmX23, rfl, fun _ => Or.inl rfl⟩
  · cases h
    exact ⟨RX18, TX18, 11, tyX18, rfl, by decide, hb_inX18, (hb_w 2080 (by decide +kernel)), tyX18_ok, nmX18, rfl, fun _ => Or.inl rfl⟩
  · cases h
    exact ⟨RX23, TX23, 115, tyX23, rfl, by decide, hb_inX23, (hb_w 2241 (by decide +kernel)), tyX23_ok, nmX23, rfl, fun h => Or.inr ⟨rfl, h, rfl⟩⟩
  · cases h
    exact ⟨RX23, TX23, 115, tyX23, rfl, by decide, hb_inX23, (hb_w 2267 (by decide +kernel)), tyX23_ok, nmX23, rfl, fun _ => Or.inl rfl⟩
  · cases h
    exact ⟨RX23, TX23, 115, tyX23, rfl, by decide, hb_inX23, (hb_w 2255 (by decide +kernel)), tyX23_ok, nmX23, rfl, fun _ => Or.inl rfl⟩
  · cases h
    exact ⟨RX18, TX18, 11, tyX18, rfl, by decide, hb_inX18, (hb_w 2083 (by decide +kernel)), tyX18_ok, nmX18, rfl, fun _ => Or.inl rfl⟩
  · cases h
    exact ⟨RX18, TX18, 11, tyX18, rfl, by decide, hb_inX18, (hb_w 2089 (by decide +kernel)), tyX18_ok, nmX18, rfl, fun h => by cases h⟩
  · cases h
    exact ⟨RX23, TX23, 115, tyX23, rfl, by decide, hb_inX23, (hb_w 2266 (by decide +kernel)), tyX23_ok, nmX23, rfl, fun _ => Or.inl rfl⟩
  · cases h
    exact ⟨RX18, TX18, 11, tyX18, rfl, by decide, hb_inX18, (hb_w 2092 (by decide +kernel)), tyX18_ok, nmX18, rfl, fun _ => Or.inl rfl⟩
  · cases h
    exact ⟨RX23, TX23, 115, tyX23, rfl, by decide, hb_inX23, (hb_w 2264 (by decide +kernel)), tyX23_ok, nmX23, rfl, fun h => Or.inr ⟨rfl, h, rfl⟩⟩
  · cases h
    exact ⟨RX18, TX18, 11, tyX18, rfl, by decide, hb_inX18, (hb_w 2085 (by decide +kernel)), tyX18_ok, nmX18, rfl, fun h => by cases h⟩
  · cases h
    exact ⟨RX18, TX18, 11, tyX18, rfl, by decide, hb_inX18, (hb_w 2087 (by decide +kernel)), tyX18_ok, nmX18, rfl, fun h => by cases h⟩
  · cases h
    exact ⟨RX20, TX20, 12, tyX20, rfl, by decide, hb_inX20, (hb_w 2823 (by decide +kernel)), tyX20_ok, nmX20, rfl, fun _ => Or.inl rfl⟩
  · cases h
    exact ⟨RX20, TX20, 12, tyX20, rfl, by decide, hb_inX20, (hb_w 2825 (by decide +kernel)), tyX20_ok, nmX20, rfl, fun _ => Or.inl rfl⟩
  · cases h
    exact ⟨RX20, TX20, 12, tyX20, rfl, by decide, hb_inX20, (hb_w 2813 (by decide +kernel)), tyX20_ok, nmX20, rfl, fun _ => Or.inl rfl⟩
  · cases h
    exact ⟨RX20, TX20, 12, tyX20, rfl, by decide, hb_inX20, (hb_w 2817 (by decide +kernel)), tyX20_ok, nmX20, rfl, fun _ => Or.inl rfl⟩
  · cases h
    exact ⟨RX20, TX20, 12, tyX20, rfl, by decide, hb_inX20, (hb_w 2815 (by decide +kernel)), tyX20_ok, nmX20, rfl, fun _ => Or.inl rfl⟩
  · cases h
    exact ⟨RX20, TX20, 12, tyX20, rfl, by decide, hb_inX20, (hb_w 2831 (by decide +kernel)), tyX20_ok, nmX20, rfl, fun _ => Or.inl rfl⟩
  · cases h
    exact ⟨RX20, TX20, 12, tyX20, rfl, by decide, hb_inX20, (hb_w 2835 (by decide +kernel)), tyX20_ok, nmX20, rfl, fun _ => Or.inl rfl⟩
  · cases h
    exact ⟨RX20, TX20, 12, tyX20, rfl, by decide, hb_inX20, (hb_w 2819 (by decide +kernel)), tyX20_ok, nmX20, rfl, fun _ => Or.inl rfl⟩
  · cases h
    exact ⟨RX20, TX20, 12, tyX20, rfl, by decide, hb_inX20, (hb_w 2833 (by decide +kernel)), tyX20_ok, nmX20, rfl, fun _ => Or.inl rfl⟩
  · cases h
    exact ⟨RX20, TX20, 12, tyX20, rfl, by decide, hb_inX20, (hb_w 2827 (by decide +kernel)), tyX20_ok, nmX20, rfl, fun _ => Or.inl rfl⟩
  · cases h
    exact ⟨RX20, TX20, 12, tyX20, rfl, by decide, hb_inX20, (hb_w 2829 (by decide +kernel)), tyX20_ok, nmX20, rfl, fun _ => Or.inl rfl⟩
  · cases h
    exact ⟨RX20, TX20, 12, tyX20, rfl, by decide, hb_inX20, (hb_w 2821 (by decide +kernel)), tyX20_ok, nmX20, rfl, fun _ => Or.inl rfl⟩
  · cases h
    exact ⟨RX23, TX23, 115, tyX23, rfl, by decide, hb_inX23, (hb_w 2274 (by decide +kernel)), tyX23_ok, nmX23, rfl, fun _ => Or.inl rfl⟩
  · cases h
    exact ⟨RX23, TX23, 115, tyX23, rfl, by decide, hb_inX23, (hb_w 2269 (by decide +kernel)), tyX23_ok, nmX23, rfl, fun h => Or.inr ⟨rfl, h, rfl⟩⟩
  · cases h
    exact ⟨RX23, TX23, 115, tyX23, rfl, by decide, hb_inX23, (hb_w 2273 (by decide +kernel)), tyX23_ok, nmX23, rfl, fun h => Or.inr ⟨rfl, h, rfl⟩⟩
  · cases h
    exact ⟨RX23, TX23, 115, tyX23, rfl, by decide, hb_inX23, (hb_w 2270 (by decide +kernel)), tyX23_ok, nmX23, rfl, fun h => Or.inr ⟨rfl, h, rfl⟩⟩
  · cases h
    exact ⟨RX23, TX23, 115, tyX23, rfl, by decide, hb_inX23, (hb_w 2271 (by decide +kernel)), tyX23_ok, nmX23, rfl, fun h => Or.inr ⟨rfl, h, rfl⟩⟩
  · cases h
    exact ⟨RX23, TX23, 115, tyX23, rfl, by decide, hb_inX23, (hb_w 2272 (by decide +kernel)), tyX23_ok, nmX23, rfl, fun h => Or.inr ⟨rfl, h, rfl⟩⟩
  · cases h
    exact ⟨RX23, TX23, 115, tyX23, rfl, by decide, hb_inX23, (hb_w 2268 (by decide +kernel)), tyX23_ok, nmX23, rfl, fun h => Or.inr ⟨rfl, h, rfl⟩⟩
  · cases h
    exact ⟨RX23, TX23, 115, tyX23, rfl, by decide, hb_inX23, (hb_w 2290 (by decide +kernel)), tyX23_ok, nmX23, rfl, fun h => Or.inr ⟨rfl, h, rfl⟩⟩
  · cases h
    exact ⟨RX23, TX23, 115, tyX23, rfl, by decide, hb_inX23, (hb_w 2291 (by decide +kernel)), tyX23_ok, nmX23, rfl, fun h => Or.inr ⟨rfl, h, rfl⟩⟩
  · cases h
    exact ⟨RX23, TX23, 115, tyX23, rfl, by decide, hb_inX23, (hb_w 2275 (by decide +kernel)), tyX23_ok, nmX23, rfl, fun h => Or.inr ⟨rfl, h, rfl⟩⟩
  · cases h
    exact ⟨RX23, TX23, 115, tyX23, rfl, by decide, hb_inX23, (hb_w 2280 (by decide +kernel)), tyX23_ok, nmX23, rfl, fun _ => Or.inl rfl⟩
  · cases h
    exact ⟨RX23, TX23, 115, tyX23, rfl, by decide, hb_inX23, (hb_w 2276 (by decide +kernel)), tyX23_ok, nmX23, rfl, fun h => Or.inr ⟨rfl, h, rfl⟩⟩
  · cases h
    exact ⟨RX23, TX23, 115, tyX23, rfl, by decide, hb_inX23, (hb_w 2278 (by decide +kernel)), tyX23_ok, nmX23, rfl, fun h => Or.inr ⟨rfl, h, rfl⟩⟩
  · cases h
    exact ⟨RX23, TX23, 115, tyX23, rfl, by decide, hb_inX23, (hb_w 2284 (by decide +kernel)), tyX23_ok, nmX23, rfl, fun _ => Or.inl rfl⟩
  · cases h
    exact ⟨RX23, TX23, 115, tyX23, rfl, by decide, hb_inX23, (hb_w 2283 (by decide +kernel)), tyX23_ok, nmX23, rfl, fun _ => Or.inl rfl⟩
  · cases h
    exact ⟨RX23, TX23, 115, tyX23, rfl, by decide, hb_inX23, (hb_w 2282 (by decide +kernel)), tyX23_ok, nmX23, rfl, fun h => Or.inr ⟨rfl, h, rfl⟩⟩
  · cases h
    exact ⟨RX23, TX23, 115, tyX23, rfl, by decide, hb_inX23, (hb_w 2285 (by decide +kernel)), tyX23_ok, nmX23, rfl, fun h => Or.inr ⟨rfl, h, rfl⟩⟩
  · cases h
    exact ⟨RX23, TX23, 115, tyX23, rfl, by decide, hb_inX23, (hb_w 2279 (by decide +kernel)), tyX23_ok, nmX23, rfl, fun h => Or.inr ⟨rfl, h, rfl⟩⟩
  · cases h
    exact ⟨RX23, TX23, 115, tyX23, rfl, by decide, hb_inX23, (hb_w 2287 (by decide +kernel)), tyX23_ok, nmX23, rfl, fun _ => Or.inl rfl⟩
  · cases h
    exact ⟨RX23, TX23, 115, tyX23, rfl, by decide, hb_inX23, (hb_w 2281 (by decide +kernel)), tyX23_ok, nmX23, rfl, fun _ => Or.inl rfl⟩
  · cases h
    exact ⟨RX23, TX23, 115, tyX23, rfl, by decide, hb_inX23, (hb_w 2286 (by decide +kernel)), tyX23_ok, nmX23, rfl, fun _ => Or.inl rfl⟩
  · cases h
    exact ⟨RX23, TX23, 115, tyX23, rfl, by decide, hb_inX23, (hb_w 2277 (by decide +kernel)), tyX23_ok, nmX23, rfl, fun h => Or.inr ⟨rfl, h, rfl⟩⟩
  · cases h
    exact ⟨RX23, TX23, 115, tyX23, rfl, by decide, hb_inX23, (hb_w 2288 (by decide +kernel)), tyX23_ok, nmX23, rfl, fun h => Or.inr ⟨rfl, h, rfl⟩⟩
  · cases h
    exact ⟨RX23, TX23, 115, tyX23, rfl, by decide, hb_inX23, (hb_w 2289 (by decide +kernel)), tyX23_ok, nmX23, rfl, fun h => Or.inr ⟨rfl, h, rfl⟩⟩
  · cases h
    exact ⟨RX23, TX23, 115, tyX23, rfl, by decide, hb_inX23, (hb_w 2316 (by decide +kernel)), tyX23_ok, nmX23, rfl, fun _ => Or.inl rfl⟩
  · cases h
    exact ⟨RX23, TX23, 115, tyX23, rfl, by decide, hb_inX23, (hb_w 2293 (by decide +kernel)), tyX23_ok, nmX23, rfl, fun h => Or.inr ⟨rfl, h, rfl⟩⟩
  · cases h
    exact ⟨RX23, TX23, 115, tyX23, rfl, by decide, hb_inX23, (hb_w 2292 (by decide +kernel)), tyX23_ok, nmX23, rfl, fun h => Or.inr ⟨rfl, h, rfl⟩⟩
  · cases h
    exact ⟨RX23, TX23, 115, tyX23, rfl, by decide, hb_inX23, (hb_w 2296 (by decide +kernel)), tyX23_ok, nmX23, rfl, fun h => Or.inr ⟨rfl, h, rfl⟩⟩
  · cases h
    exact ⟨RX23, TX23, 115, tyX23, rfl, by decide, hb_inX23, (hb_w 2294 (by decide +kernel)), tyX23_ok, nmX23, rfl, fun h => Or.inr ⟨rfl, h, rfl⟩⟩
  · cases h
    exact ⟨RX23, TX23, 115, tyX23, rfl, by decide, hb_inX23, (hb_w 2295 (by decide +kernel)), tyX23_ok, nmX23, rfl, fun h => Or.inr ⟨rfl, h, rfl⟩⟩
  · cases h
    exact ⟨RX23, TX23, 115, tyX23, rfl, by decide, hb_inX23, (hb_w 2297 (by decide +kernel)), tyX23_ok, nmX23, rfl, fun _ => Or.inl rfl⟩
  · cases h
    exact ⟨RX23, TX23, 115, tyX23, rfl, by decide, hb_inX23, (hb_w 2298 (by decide +kernel)), tyX23_ok, nmX23, rfl, fun _ => Or.inl rfl⟩
  · cases h
    exact ⟨RX23, TX23, 115, tyX23, rfl, by decide, hb_inX23, (hb_w 2299 (by decide +kernel)), tyX23_ok, nmX23, rfl, fun _ => Or.inl rfl⟩
  · cases h
    exact ⟨RX23, TX23, 115, tyX23, rfl, by decide, hb_inX23, (hb_w 2300 (by decide +kernel)), tyX23_ok, nmX23, rfl, fun _ => Or.inl rfl⟩
  · cases h
    exact ⟨RX23, TX23, 115, tyX23, rfl, by decide, hb_inX23, (hb_w 2315 (by decide +kernel)), tyX23_ok, nmX23, rfl, fun _ => Or.inl rfl⟩
  · cases h
    exact ⟨RX23, TX23, 115, tyX23, rfl, by decide, hb_inX23, (hb_w 2301 (by decide +kernel)), tyX23_ok, nmX23, rfl, fun _ => Or.inl rfl⟩
  · cases h
    exact ⟨RX23, TX23, 115, tyX23, rfl, by decide, hb_inX23, (hb_w 2308 (by decide +kernel)), tyX23_ok, nmX23, rfl, fun _ => Or.inl rfl⟩
  · cases h
    exact ⟨RX23, TX23, 115, tyX23, rfl, by decide, hb_inX23, (hb_w 2307 (by decide +kernel)), tyX23_ok, nmX23, rfl, fun _ => Or.inl rfl⟩
  · cases h
    exact ⟨RX23, TX23, 115, tyX23, rfl, by decide, hb_inX23, (hb_w 2305 (by decide +kernel)), tyX23_ok, nmX23, rfl, fun h => Or.inr ⟨rfl, h, rfl⟩⟩
  · cases h
    exact ⟨RX14, TX14, 4, tyX14, rfl, by decide, hb_inX14, (hb_w 2172 (by decide +kernel)), tyX14_ok, nmX14, rfl, fun _ => Or.inl rfl⟩
  · cases h
    exact ⟨RX14, TX14, 4, tyX14, rfl, by decide, hb_inX14, (hb_w 2176 (by decide +kernel)), tyX14_ok, nmX14, rfl, fun h => by cases h⟩
  · cases h
    exact ⟨RX14, TX14, 4, tyX14, rfl, by decide, hb_inX14, (hb_w 2178 (by decide +kernel)), tyX14_ok, nmX14, rfl, fun h => by cases h⟩
  · cases h
    exact ⟨RX23, TX23, 115, tyX23, rfl, by decide, hb_inX23, (hb_w 2306 (by decide +kernel)), tyX23_ok, nmX23, rfl, fun _ => Or.inl rfl⟩
  · cases h
    exact ⟨RX23, TX23, 115, tyX23, rfl, by decide, hb_inX23, (hb_w 2304 (by decide +kernel)), tyX23_ok, nmX23, rfl, fun h => Or.inr ⟨rfl, h, rfl⟩⟩
  · cases h
    exact ⟨RX14, TX14, 4, tyX14, rfl, by decide, hb_inX14, (hb_w 2174 (by decide +kernel)), tyX14_ok, nmX14, rfl, fun h => by cases h⟩
  · cases h
    exact ⟨RX23, TX23, 115, tyX23, rfl, by decide, hb_inX23, (hb_w 2311 (by decide +kernel)), tyX23_ok, nmX23, rfl, fun _ => Or.inl rfl⟩
  · cases h
    exact ⟨RX23, TX23, 115, tyX23, rfl, by decide, hb_inX23, (hb_w 2309 (by decide +kernel)), tyX23_ok, nmX23, rfl, fun h => Or.inr ⟨rfl, h, rfl⟩⟩
  · cases h
    exact ⟨RX23, TX23, 115, tyX23, rfl, by decide, hb_inX23, (hb_w 2312 (by decide +kernel)), tyX23_ok, nmX23, rfl, fun _ => Or.inl rfl⟩
  · cases h
    exact ⟨RX23, TX23, 115, tyX23, rfl, by decide, hb_inX23, (hb_w 2310 (by decide +kernel)), tyX23_ok, nmX23, rfl, fun h => Or.inr ⟨rfl, h, rfl⟩⟩
  · cases h
    exact ⟨RX23, TX23, 115, tyX23, rfl, by decide, hb_inX23, (hb_w 2313 (by decide +kernel)), tyX23_ok, nmX23, rfl, fun _ => Or.inl rfl⟩
  · cases h
    exact ⟨RX23, TX23, 115, tyX23, rfl, by decide, hb_inX23, (hb_w 2314 (by decide +kernel)), tyX23_ok, nmX23, rfl, fun _ => Or.inl rfl⟩
  · cases h
    exact ⟨RX23, TX23, 115, tyX23, rfl, by decide, hb_inX23, (hb_w 2323 (by decide +kernel)), tyX23_ok, nmX23, rfl, fun h => Or.inr ⟨rfl, h, rfl⟩⟩
  · cases h
    exact ⟨RX23, TX23, 115, tyX23, rfl, by decide, hb_inX23, (hb_w 2320 (by decide +kernel)), tyX23_ok, nmX23, rfl, fun _ => Or.inl rfl⟩
  · cases h
    exact ⟨RX23, TX23, 115, tyX23, rfl, by decide, hb_inX23, (hb_w 2303 (by decide +kernel)), tyX23_ok, nmX23, rfl, fun _ => Or.inl rfl⟩
  · cases h
    exact ⟨RX23, TX23, 115, tyX23, rfl, by decide, hb_inX23, (hb_w 2318 (by decide +kernel)), tyX23_ok, nmX23, rfl, fun _ => Or.inl rfl⟩
  · cases h
    exact ⟨RX23, TX23, 115, tyX23, rfl, by decide, hb_inX23, (hb_w 2321 (by decide +kernel)), tyX23_ok, nmX23, rfl, fun h => Or.inr ⟨rfl, h, rfl⟩⟩
  · cases h
    exact ⟨RX23, TX23, 115, tyX23, rfl, by decide, hb_inX23, (hb_w 2327 (by decide +kernel)), tyX23_ok, nmX23, rfl, fun h => Or.inr ⟨rfl, h, rfl⟩⟩
  · cases h
    exact ⟨RX23, TX23, 115, tyX23, rfl, by decide, hb_inX23, (hb_w 2328 (by decide +kernel)), tyX23_ok, nmX23, rfl, fun h => Or.inr ⟨rfl, h, rfl⟩⟩
  · cases h
    exact ⟨RX23, TX23, 115, tyX23, rfl, by decide, hb_inX23, (hb_w 2317 (by decide +kernel)), tyX23_ok, nmX23, rfl, fun _ => Or.inl rfl⟩
  · cases h
    exact ⟨RX23, TX23, 115, tyX23, rfl, by decide, hb_inX23, (hb_w 2302 (by decide +kernel)), tyX23_ok, nmX23, rfl, fun h => Or.inr ⟨rfl, h, rfl⟩⟩
  · cases h
    exact ⟨RX23, TX23, 115, tyX23, rfl, by decide, hb_inX23, (hb_w 2319 (by decide +kernel)), tyX23_ok, nmX23, rfl, fun _ => Or.inl rfl⟩
  · cases h
    exact ⟨RX23, TX23, 115, tyX23, rfl, by decide, hb_inX23, (hb_w 2322 (by decide +kernel)), tyX23_ok, nmX23, rfl, fun h => Or.inr ⟨rfl, h, rfl⟩⟩
  · cases h
    exact ⟨RX23, TX23, 115, tyX23, rfl, by decide, hb_inX23, (hb_w 2324 (by decide +kernel)), tyX23_ok, nmX23, rfl, fun h => Or.inr ⟨rfl, h, rfl⟩⟩
  · cases h
    exact ⟨RX23, TX23, 115, tyX23, rfl, by decide, hb_inX23, (hb_w 2325 (by decide +kernel)), tyX23_ok, nmX23, rfl, fun h => Or.inr ⟨rfl, h, rfl⟩⟩
  · cases h
    exact ⟨RX23, TX23, 115, tyX23, rfl, by decide, hb_inX23, (hb_w 2326 (by decide +kernel)), tyX23_ok, nmX23, rfl, fun h => Or.inr ⟨rfl, h, rfl⟩⟩
  · cases h
    exact ⟨RX23, TX23, 115, tyX23, rfl, by decide, hb_inX23, (hb_w 2329 (by decide +kernel)), tyX23_ok, nmX23, rfl, fun _ => Or.inl rfl⟩
  · cases h
    exact ⟨RX23, TX23, 115, tyX23, rfl, by decide, hb_inX23, (hb_w 2330 (by decide +kernel)), tyX23_ok, nmX23, rfl, fun _ => Or.inl rfl⟩
  · cases h
    exact ⟨RX23, TX23, 115, tyX23, rfl, by decide, hb_inX23, (hb_w 2243 (by decide +kernel)), tyX23_ok, nmX23, rfl, fun _ => Or.inl rfl⟩
  · cases h
    exact ⟨RX23, TX23, 115, tyX23, rfl, by decide, hb_inX23, (hb_w 2331 (by decide +kernel)), tyX23_ok, nmX23, rfl, fun _ => Or.inl rfl⟩
  · cases h
    exact ⟨RX23, TX23, 115, tyX23, rfl, by decide, hb_inX23, (hb_w 2332 (by decide +kernel)), tyX23_ok, nmX23, rfl, fun h => Or.inr ⟨rfl, h, rfl⟩⟩
  · cases h
    exact ⟨RX23, TX23, 115, tyX23, rfl, by decide, hb_inX23, (hb_w 2339 (by decide +kernel)), tyX23_ok, nmX23, rfl, fun _ => Or.inl rfl⟩
  · cases h
    exact ⟨RX23, TX23, 115, tyX23, rfl, by decide, hb_inX23, (hb_w 2333 (by decide +kernel)), tyX23_ok, nmX23, rfl, fun h => Or.inr ⟨rfl, h, rfl⟩⟩
  · cases h
    exact ⟨RX23, TX23, 115, tyX23, rfl, by decide, hb_inX23, (hb_w 2341 (by decide +kernel)), tyX23_ok, nmX23, rfl, fun _ => Or.inl rfl⟩
  · cases h
    exact ⟨RX23, TX23, 115, tyX23, rfl, by decide, hb_inX23, (hb_w 2335 (by decide +kernel)), tyX23_ok, nmX23, rfl, fun _ => Or.inl rfl⟩
  · cases h
    exact ⟨RX23, TX23, 115, tyX23, rfl, by decide, hb_inX23, (hb_w 2340 (by decide +kernel)), tyX23_ok, nmX23, rfl, fun _ => Or.inl rfl⟩
  · cases h
    exact ⟨RX23, TX23, 115, tyX23, rfl, by decide, hb_inX23, (hb_w 2334 (by decide +kernel)), tyX23_ok, nmX23, rfl, fun h => Or.inr ⟨rfl, h, rfl⟩⟩
  · cases h
    exact ⟨RX23, TX23, 115, tyX23, rfl, by decide, hb_inX23, (hb_w 2338 (by decide +kernel)), tyX23_ok, nmX23, rfl, fun h => Or.inr ⟨rfl, h, rfl⟩⟩
  · cases h
    exact ⟨RX23, TX23, 115, tyX23, rfl, by decide, hb_inX23, (hb_w 2342 (by decide +kernel)), tyX23_ok, nmX23, rfl, fun h => Or.inr ⟨rfl, h, rfl⟩⟩
  · cases h
    exact ⟨RX23, TX23, 115, tyX23, rfl, by decide, hb_inX23, (hb_w 2336 (by decide +kernel)), tyX23_ok, nmX23, rfl, fun h => Or.inr ⟨rfl, h, rfl⟩⟩
  · cases h
    exact ⟨RX23, TX23, 115, tyX23, rfl, by decide, hb_inX23, (hb_w 2337 (by decide +kernel)), tyX23_ok, nmX23, rfl, fun h => Or.inr ⟨rfl, h, rfl⟩⟩
  · cases h
    exact ⟨RX23, TX23, 115, tyX23, rfl, by decide, hb_inX23, (hb_w 2242 (by decide +kernel)), tyX23_ok, nmX23, rfl, fun h => Or.inr ⟨rfl, h, rfl⟩⟩
  · cases h
    exact ⟨RX23, TX23, 115, tyX23, rfl, by decide, hb_inX23, (hb_w 2346 (by decide +kernel)), tyX23_ok, nmX23, rfl, fun _ => Or.inl rfl⟩
  · cases h
    exact ⟨RX23, TX23, 115, tyX23, rfl, by decide, hb_inX23, (hb_w 2347 (by decide +kernel)), tyX23_ok, nmX23, rfl, fun h => Or.inr ⟨rfl, h, rfl⟩⟩
  · cases h
    exact ⟨RX21, TX21, 2, tyX21, rfl, by decide, hb_inX21, (hb_w 2002 (by decide +kernel)), tyX21_ok, nmX21, rfl, fun _ => Or.inl rfl⟩
  · cases h
    exact ⟨RX23, TX23, 115, tyX23, rfl, by decide, hb_inX23, (hb_w 2343 (by decide +kernel)), tyX23_ok, nmX23, rfl, fun _ => Or.inl rfl⟩
  · cases h
    exact ⟨RX23, TX23, 115, tyX23, rfl, by decide, hb_inX23, (hb_w 2345 (by decide +kernel)), tyX23_ok, nmX23, rfl, fun _ => Or.inl rfl⟩
  · cases h
    exact ⟨RX22, TX22, 7, tyX22, rfl, by decide, hb_inX22, (hb_w 2713 (by decide +kernel)), tyX22_ok, nmX22, rfl, fun h => by cases h⟩
  · cases h
    exact ⟨RX23, TX23, 115, tyX23, rfl, by decide, hb_inX23, (hb_w 2344 (by decide +kernel)), tyX23_ok, nmX23, rfl, fun _ => Or.inl rfl⟩
  · cases h
def hb_C23 : ab_CT
  | 8 => some (20, [.null, .int 0])
  | 22 => some (18, [.null, .int 0, .null, .int 0, .null, .null])
  | 39 => some (14, [.null, .int 0, .int 0, .int 0])
  | 223 => some (23, [.null, .null, .null, .null, .null, .int 0, .int 0])
  | 324 => some (19, [.int 0, .int 0, .int 0, .int 0, .int 0, .null, .null, .null, .null, .null, .int 0])
  | 404 => some (22, [.null, .int 0])
  | 721 => some (15, [.int 0, .null, .null, .null])
  | 790 => some (17, [.null, .null, .null, .null, .null, .int 0])
  | 888 => some (16, [.null, .null, .null, .null, .null, .int 0])
  | _ => none
theorem hb_C23_ok : ab_Cd RX23 hb_TB vwCl hb_C23 := by
  intro ix ci fs h
  unfold hb_C23 at h
  split at h
  · cases h
    exact ⟨RX19, TX19, 2, tyX19, rfl, hb_inX19, tyX19_ok, (hb_w 1966 (by decide +kernel)), (hb_w 2017 (by decide +kernel)), (hb_w 221 (by decide +kernel)), by decide +kernel, rfl, fun _ => rfl⟩
  · cases h
    exact ⟨RX17, TX17, 6, tyX17, rfl, hb_inX17, tyX17_ok, (hb_w 1960 (by decide +kernel)), (hb_w 2011 (by decide +kernel)), (hb_w 220 (by decide +kernel)), by decide +kernel, rfl, fun _ => rfl⟩
  · cases h
    exact ⟨RX13, TX13, 4, tyX13, rfl, hb_inX13, tyX13_ok, (hb_w 1962 (by decide +kernel)), (hb_w 2053 (by decide +kernel)), (hb_w 222 (by decide +kernel)), by decide +kernel, rfl, fun _ => rfl⟩
  · cases h
    exact ⟨RX22, TX22, 7, tyX22, rfl, hb_inX22, tyX22_ok, (hb_w 2603 (by decide +kernel)), (hb_w 2700 (by decide +kernel)), (hb_w 235 (by decide +kernel)), by decide +kernel, rfl, fun _ => rfl⟩
  · cases h
    exact ⟨RX18, TX18, 11, tyX18, rfl, hb_inX18, tyX18_ok, (hb_w 1964 (by decide +kernel)), (hb_w 2074 (by decide +kernel)), (hb_w 223 (by decide +kernel)), by decide +kernel, rfl, fun _ => rfl⟩
  · cases h
    exact ⟨RX21, TX21, 2, tyX21, rfl, hb_inX21, tyX21_ok, (hb_w 1968 (by decide +kernel)), (hb_w 1969 (by decide +kernel)), (hb_w 216 (by decide +kernel)), by decide +kernel, rfl, fun _ => rfl⟩
  · cases h
    exact ⟨RX14, TX14, 4, tyX14, rfl, hb_inX14, tyX14_ok, (hb_w 2125 (by decide +kernel)), (hb_w 2166 (by decide +kernel)), (hb_w 229 (by decide +kernel)), by decide +kernel, rfl, fun _ => rfl⟩
  · cases h
    exact ⟨RX16, TX16, 6, tyX16, rfl, hb_inX16, tyX16_ok, (hb_w 2127 (by decide +kernel)), (hb_w 2128 (by decide +kernel)), (hb_w 227 (by decide +kernel)), by decide +kernel, rfl, fun _ => rfl⟩
  · cases h
    exact ⟨RX15, TX15, 6, tyX15, rfl, hb_inX15, tyX15_ok, (hb_w 2150 (by decide +kernel)), (hb_w 2151 (by decide +kernel)), (hb_w 228 (by decide +kernel)), by decide +kernel, rfl, fun _ => rfl⟩
  · cases h
def hb_I23 : Nat → Option Int32
  | 647 => some (65535)
  | 969 => some (65536)
  | 1014 => some (100000)
  | _ => none
theorem hb_I23_ok : ∀ ix v, hb_I23 ix = some v → Cond.constant RX23 ix v ∈ hb_TB := by
  intro ix v h
  unfold hb_I23 at h
  split at h
  · cases h
    exact (hb_w 3121 (by decide +kernel))
  · cases h
    exact (hb_w 2124 (by decide +kernel))
  · cases h
    exact (hb_w 3020 (by decide +kernel))
  · cases h
def hb_L23 : Nat → Option Int64
  | 201 => some (10)
  | 203 => some (48)
  | 205 => some (1099511627776)
  | 216 => some (2147483647)
  | 555 => some (2147483648)
  | 622 => some (-1)
  | 634 => some (-7046029254386353131)
  | 636 => some (-4417276706812531889)
  | 689 => some (15)
  | 743 => some (4294967295)
  | _ => none
theorem hb_L23_ok : ∀ ix v, hb_L23 ix = some v → Cond.constantLong RX23 ix v ∈ hb_TB := by
  intro ix v h
  unfold hb_L23 at h
  split at h
  · cases h
    exact (hb_w 2665 (by decide +kernel))
  · cases h
    exact (hb_w 2666 (by decide +kernel))
  · cases h
    exact (hb_w 2667 (by decide +kernel))
  · cases h
    exact (hb_w 2669 (by decide +kernel))
  · cases h
    exact (hb_w 3069 (by decide +kernel))
  · cases h
    exact (hb_w 3107 (by decide +kernel))
  · cases h
    exact (hb_w 3119 (by decide +kernel))
  · cases h
    exact (hb_w 3120 (by decide +kernel))
  · cases h
    exact (hb_w 3209 (by decide +kernel))
  · cases h
    exact (hb_w 3190 (by decide +kernel))
  · cases h
def hb_T23 : Nat → Option (Nat × Nat × Nat × Nat)
  | 7 => some (0, 4867, 3, 20)
  | 27 => some (0, 5888, 2, 24)
  | 48 => some (0, 5890, 1, 24)
  | 52 => some (0, 5891, 1, 24)
  | 55 => some (0, 5892, 1, 24)
  | 58 => some (0, 4353, 2, 18)
  | 62 => some (0, 5897, 3, 24)
  | 89 => some (0, 5896, 2, 24)
  | 93 => some (6, 9472, 0, 0)
  | 102 => some (6, 9473, 1, 0)
  | 110 => some (0, 5900, 1, 24)
  | 186 => some (1, 5898, 1, 0)
  | 190 => some (1, 5899, 1, 0)
  | 193 => some (0, 5901, 0, 24)
  | 207 => some (1, 9218, 2, 0)
  | 220 => some (6, 9475, 1, 0)
  | 225 => some (2, 5632, 1, 0)
  | 229 => some (6, 9474, 1, 0)
  | 233 => some (0, 5904, 1, 24)
  | 235 => some (0, 5903, 0, 24)
  | 239 => some (0, 5902, 0, 24)
  | 242 => some (0, 5905, 1, 24)
  | 259 => some (0, 5910, 2, 24)
  | 263 => some (0, 5914, 0, 24)
  | 266 => some (0, 5908, 1, 24)
  | 269 => some (0, 5915, 0, 24)
  | 271 => some (0, 5916, 0, 24)
  | 273 => some (0, 5917, 0, 24)
  | 275 => some (0, 5918, 0, 24)
  | 277 => some (0, 5909, 0, 24)
  | 279 => some (0, 5893, 1, 24)
  | 286 => some (0, 4865, 3, 20)
  | 293 => some (0, 5906, 1, 24)
  | 296 => some (0, 5895, 1, 24)
  | 342 => some (0, 5919, 2, 24)
  | 359 => some (0, 5922, 0, 24)
  | 372 => some (0, 5930, 0, 24)
  | 378 => some (0, 5921, 1, 24)
  | 385 => some (0, 5889, 2, 24)
  | 388 => some (0, 5920, 0, 24)
  | 396 => some (0, 5924, 0, 24)
  | 399 => some (0, 5923, 3, 24)
  | 403 => some (0, 5377, 1, 22)
  | 417 => some (0, 5926, 0, 24)
  | 420 => some (0, 5911, 0, 24)
  | 423 => some (0, 5927, 0, 24)
  | 426 => some (0, 5925, 2, 24)
  | 429 => some (0, 5928, 1, 24)
  | 442 => some (0, 5929, 0, 24)
  | 453 => some (0, 5912, 1, 24)
  | 456 => some (0, 5907, 1, 24)
  | 459 => some (0, 5931, 2, 24)
  | 466 => some (0, 5932, 0, 24)
  | 469 => some (0, 5933, 1, 24)
  | 473 => some (0, 5934, 0, 24)
  | 480 => some (0, 5935, 1, 24)
  | 483 => some (0, 5936, 2, 24)
  | 494 => some (0, 5894, 2, 24)
  | 520 => some (0, 5949, 0, 24)
  | 536 => some (0, 5940, 3, 24)
  | 540 => some (0, 5941, 1, 24)
  | 563 => some (0, 5943, 1, 24)
  | 572 => some (0, 5947, 1, 24)
  | 576 => some (1, 8962, 1, 0)
  | 582 => some (1, 5944, 4, 0)
  | 589 => some (1, 5945, 2, 0)
  | 592 => some (0, 5948, 1, 24)
  | 596 => some (1, 5946, 1, 0)
  | 604 => some (0, 5951, 4, 24)
  | 608 => some (0, 5952, 3, 24)
  | 613 => some (1, 8448, 2, 0)
  | 618 => some (0, 5942, 1, 24)
  | 630 => some (1, 5954, 4, 0)
  | 648 => some (0, 5953, 1, 24)
  | 651 => some (0, 5956, 0, 24)
  | 654 => some (0, 5955, 2, 24)
  | 658 => some (1, 5959, 3, 0)
  | 673 => some (0, 5961, 3, 24)
  | 677 => some (0, 5960, 1, 24)
  | 680 => some (0, 5962, 2, 24)
  | 686 => some (0, 5963, 1, 24)
  | 691 => some (1, 5965, 2, 0)
  | 697 => some (1, 5967, 2, 0)
  | 701 => some (0, 5970, 3, 24)
  | 705 => some (1, 5969, 2, 0)
  | 716 => some (0, 5950, 3, 24)
  | 735 => some (0, 5971, 1, 24)
  | 739 => some (1, 9216, 2, 0)
  | 745 => some (1, 5973, 2, 0)
  | 768 => some (0, 5976, 1, 24)
  | 772 => some (0, 5977, 0, 24)
  | 785 => some (1, 5966, 2, 0)
  | 798 => some (1, 5974, 1, 0)
  | 801 => some (0, 5978, 1, 24)
  | 808 => some (0, 5980, 3, 24)
  | 812 => some (0, 5975, 1, 24)
  | 825 => some (0, 5964, 2, 24)
  | 832 => some (0, 5979, 2, 24)
  | 840 => some (0, 5981, 4, 24)
  | 844 => some (1, 5937, 2, 0)
  | 847 => some (0, 5939, 2, 24)
  | 851 => some (0, 5968, 3, 24)
  | 855 => some (0, 5972, 3, 24)
  | 874 => some (0, 5982, 5, 24)
  | 877 => some (1, 9217, 2, 0)
  | 899 => some (0, 5958, 2, 24)
  | 906 => some (0, 5984, 1, 24)
  | 912 => some (0, 5985, 1, 24)
  | 925 => some (0, 4609, 1, 19)
  | 931 => some (0, 5986, 1, 24)
  | 938 => some (0, 5988, 2, 24)
  | 945 => some (1, 5987, 1, 0)
  | 952 => some (4, 0, 0, 0)
  | 956 => some (3, 5376, 0, 0)
  | 963 => some (3, 4352, 0, 0)
  | 964 => some (3, 3328, 0, 0)
  | 965 => some (3, 4608, 0, 0)
  | 970 => some (2, 4096, 0, 0)
  | 971 => some (2, 3840, 0, 0)
  | 978 => some (3, 4864, 0, 0)
  | 979 => some (3, 3584, 0, 0)
  | 980 => some (0, 5990, 0, 24)
  | 987 => some (0, 5991, 2, 24)
  | 995 => some (0, 5938, 0, 24)
  | 998 => some (0, 4866, 1, 20)
  | 1003 => some (0, 5993, 1, 24)
  | 1005 => some (0, 5995, 2, 24)
  | 1007 => some (0, 5913, 0, 24)
  | 1018 => some (0, 6001, 1, 24)
  | 1021 => some (0, 5957, 1, 24)
  | 1024 => some (0, 5983, 1, 24)
  | _ => none
def hb_M23 : Nat → Option ab_MI
  | 0 => some (23, yX23_isName, cX23_isName, 3, (some .boolean), false)
  | 1 => some (23, yX23_isSame, cX23_isSame, 4, (some .boolean), false)
  | 2 => some (23, yX23_kindNamed, cX23_kindNamed, 3, (some .int), false)
  | 3 => some (23, yX23_callNamed, cX23_callNamed, 3, (some .int), false)
  | 4 => some (23, yX23_layerNamed, cX23_layerNamed, 3, (some .int), false)
  | 5 => some (23, yX23_isTold, cX23_isTold, 2, (some .boolean), false)
  | 6 => some (23, yX23_isBelow, cX23_isBelow, 3, (some .boolean), false)
  | 7 => some (23, yX23_makeRows, cX23_makeRows, 8, (some .boolean), false)
  | 8 => some (23, yX23_isFirst, cX23_isFirst, 5, (some .boolean), false)
  | 9 => some (23, yX23_joined, cX23_joined, 12, none, false)
  | 10 => some (23, yX23_isLetter, cX23_isLetter, 1, (some .boolean), false)
  | 11 => some (23, yX23_isDigit, cX23_isDigit, 1, (some .boolean), false)
  | 12 => some (23, yX23_isHere, cX23_isHere, 3, (some .boolean), false)
  | 13 => some (23, yX23_word, cX23_word, 1, (some (.object "java/lang/String")), false)
  | 14 => some (23, yX23_next, cX23_next, 4, none, false)
  | 15 => some (23, yX23_no, cX23_no, 1, (some (.object "DispatchHouseModel$Wrong")), false)
  | 16 => some (23, yX23_is, cX23_is, 2, (some .boolean), false)
  | 17 => some (23, yX23_is_, cX23_is_, 2, (some .boolean), false)
  | 18 => some (23, yX23_want, cX23_want, 2, none, false)
  | 19 => some (23, yX23_want_, cX23_want_, 2, none, false)
  | 20 => some (23, yX23_skip, cX23_skip, 2, (some .boolean), false)
  | 21 => some (23, yX23_name, cX23_name, 2, (some .int), false)
  | 22 => some (23, yX23_breaks, cX23_breaks, 3, none, false)
  | 23 => some (23, yX23_into, cX23_into, 1, none, false)
  | 24 => some (23, yX23_counted, cX23_counted, 2, none, false)
  | 25 => some (23, yX23_readText, cX23_readText, 1, none, false)
  | 26 => some (23, yX23_start, cX23_start, 1, none, false)
  | 27 => some (23, yX23_kind, cX23_kind, 10, none, false)
  | 28 => some (23, yX23_call, cX23_call, 4, none, false)
  | 29 => some (23, yX23_layer, cX23_layer, 3, none, false)
  | 30 => some (23, yX23_method, cX23_method, 6, none, false)
  | 31 => some (23, yX23_specs, cX23_specs, 10, none, false)
  | 32 => some (23, yX23_signed, cX23_signed, 3, (some .int), false)
  | 33 => some (23, yX23_isThere, cX23_isThere, 6, (some .boolean), false)
  | 34 => some (23, yX23_test, cX23_test, 2, (some (.object "DispatchHouseModel$Node")), false)
  | 35 => some (23, yX23_two, cX23_two, 5, (some (.object "DispatchHouseModel$Node")), false)
  | 36 => some (23, yX23_conjunction, cX23_conjunction, 2, (some (.object "DispatchHouseModel$Node")), false)
  | 37 => some (23, yX23_spec, cX23_spec, 4, (some .int), false)
  | 38 => some (23, yX23_single, cX23_single, 2, (some (.object "DispatchHouseModel$Node")), false)
  | 39 => some (23, yX23_comparison, cX23_comparison, 6, (some (.object "DispatchHouseModel$Node")), false)
  | 40 => some (23, yX23_counts, cX23_counts, 2, none, false)
  | 41 => some (23, yX23_behind, cX23_behind, 4, (some .long), false)
  | 42 => some (23, yX23_e, cX23_e, 4, (some (.object "DispatchHouseModel$Node")), false)
  | 43 => some (23, yX23_under, cX23_under, 4, (some (.object "DispatchHouseModel$Node")), false)
  | 44 => some (23, yX23_compared, cX23_compared, 4, (some (.object "DispatchHouseModel$Node")), false)
  | 45 => some (23, yX23_chain, cX23_chain, 6, (some (.object "DispatchHouseModel$Node")), false)
  | 46 => some (23, yX23_p, cX23_p, 3, (some (.object "DispatchHouseModel$Node")), false)
  | 47 => some (23, yX23_named, cX23_named, 6, (some (.object "DispatchHouseModel$Node")), false)
  | 48 => some (23, yX23_arguments, cX23_arguments, 4, none, false)
  | 49 => some (23, yX23_has, cX23_has, 2, (some .boolean), false)
  | 50 => some (23, yX23_rebuild, cX23_rebuild, 5, none, false)
  | 51 => some (23, yX23_fits, cX23_fits, 5, (some .boolean), false)
  | 52 => some (23, yX23_atom, cX23_atom, 5, none, false)
  | 53 => some (23, yX23_atoms, cX23_atoms, 2, none, false)
  | 54 => some (23, yX23_see, cX23_see, 8, none, false)
  | 55 => some (23, yX23_explore, cX23_explore, 10, none, false)
  | 56 => some (23, yX23_bound, cX23_bound, 7, (some .boolean), false)
  | 57 => some (23, yX23_both, cX23_both, 2, (some .int), false)
  | 58 => some (23, yX23_not, cX23_not, 1, (some .int), false)
  | 59 => some (23, yX23_takes, cX23_takes, 4, (some .int), false)
  | 60 => some (23, yX23_holds, cX23_holds, 4, (some .int), false)
  | 61 => some (23, yX23_forget, cX23_forget, 2, none, false)
  | 62 => some (23, yX23_nearer, cX23_nearer, 8, (some .int), false)
  | 63 => some (23, yX23_reckoned, cX23_reckoned, 9, (some .int), false)
  | 64 => some (23, yX23_asksMore, cX23_asksMore, 6, (some .int), false)
  | 65 => some (23, yX23_group, cX23_group, 11, none, false)
  | 66 => some (23, yX23_isAlike, cX23_isAlike, 6, (some .boolean), false)
  | 67 => some (23, yX23_isNew, cX23_isNew, 8, (some .boolean), false)
  | 68 => some (23, yX23_nothingIs, cX23_nothingIs, 2, none, false)
  | 69 => some (23, yX23_lists, cX23_lists, 16, (some .int), false)
  | 70 => some (23, yX23_cells, cX23_cells, 5, (some .int), false)
  | 71 => some (23, yX23_place, cX23_place, 6, (some .int), false)
  | 72 => some (23, yX23_orderCount, cX23_orderCount, 2, (some .int), false)
  | 73 => some (23, yX23_matter, cX23_matter, 12, none, false)
  | 74 => some (23, yX23_nodeCount, cX23_nodeCount, 14, (some .int), false)
  | 75 => some (23, yX23_order, cX23_order, 6, (some .int), false)
  | 76 => some (23, yX23_looks, cX23_looks, 12, (some .int), false)
  | 77 => some (23, yX23_without, cX23_without, 8, (some .long), false)
  | 78 => some (23, yX23_with, cX23_with, 6, (some .long), false)
  | 79 => some (23, yX23_isOn, cX23_isOn, 5, (some .boolean), false)
  | 80 => some (23, yX23_applies, cX23_applies, 5, (some .boolean), false)
  | 81 => some (23, yX23_term, cX23_term, 2, (some .long), false)
  | 82 => some (23, yX23_isTrue, cX23_isTrue, 6, (some .boolean), false)
  | 83 => some (23, yX23_firstOf, cX23_firstOf, 6, (some .int), false)
  | 84 => some (23, yX23_chooseRow, cX23_chooseRow, 10, none, false)
  | 85 => some (23, yX23_value, cX23_value, 2, (some .long), false)
  | 86 => some (23, yX23_kindIn, cX23_kindIn, 2, (some .int), false)
  | 87 => some (23, yX23_fault, cX23_fault, 2, (some (.object "DispatchHouseModel$Failed")), false)
  | 88 => some (23, yX23_ends, cX23_ends, 2, (some (.object "DispatchHouseModel$Ended")), false)
  | 89 => some (23, yX23_step, cX23_step, 1, none, false)
  | 90 => some (23, yX23_chained, cX23_chained, 7, (some .long), false)
  | 91 => some (23, yX23_choose, cX23_choose, 5, none, false)
  | 92 => some (23, yX23_further, cX23_further, 10, (some .long), false)
  | 93 => some (23, yX23_inside, cX23_inside, 12, (some .long), false)
  | 94 => some (23, yX23_joined_, cX23_joined_, 12, (some .int), false)
  | 95 => some (23, yX23_judge, cX23_judge, 10, none, false)
  | 96 => some (23, yX23_collect, cX23_collect, 4, none, false)
  | 97 => some (23, yX23_bad, cX23_bad, 4, (some .int), false)
  | 98 => some (23, yX23_lookAt, cX23_lookAt, 5, none, false)
  | 99 => some (23, yX23_asksKinds, cX23_asksKinds, 1, (some .boolean), false)
  | 100 => some (23, yX23_isSeveral, cX23_isSeveral, 6, (some .boolean), false)
  | 101 => some (23, yX23_init, cX23_init, 2, none, true)
  | 102 => some (23, yX23_beginning, cX23_beginning, 1, none, false)
  | 103 => some (23, yX23_tellKind, cX23_tellKind, 4, none, false)
  | 104 => some (23, yX23_thrown, cX23_thrown, 1, (some .int), false)
  | 105 => some (23, yX23_no_, cX23_no_, 2, (some .int), false)
  | 106 => some (23, yX23_feed, cX23_feed, 6, (some .int), false)
  | 107 => some (23, yX23_word_, cX23_word_, 4, none, false)
  | 108 => some (23, yX23_end, cX23_end, 2, (some .int), false)
  | 109 => some (23, yX23_clear, cX23_clear, 1, none, false)
  | 110 => some (23, yX23_drop, cX23_drop, 3, (some .boolean), false)
  | 111 => some (23, yX23_set, cX23_set, 4, (some .int), false)
  | 112 => some (23, yX23_count, cX23_count, 2, (some .int), false)
  | 113 => some (23, yX23_isKind, cX23_isKind, 2, (some .boolean), false)
  | 114 => some (23, yX23_below, cX23_below, 3, (some .boolean), false)
  | 115 => some (23, yX23_row, cX23_row, 4, (some .int), false)
  | 116 => some (23, yX23_nearer_, cX23_nearer_, 8, (some .int), false)
  | 117 => some (23, yX23_call_, cX23_call_, 4, (some .int), false)
  | 118 => some (23, yX23_run, cX23_run, 1, (some .int), false)
  | 119 => some (23, yX23_told, cX23_told, 2, (some .int), false)
  | 120 => some (23, yX23_shown, cX23_shown, 2, (some .int), false)
  | 121 => some (23, yX23_ran, cX23_ran, 3, (some .int), false)
  | 122 => some (23, yX23_word__, cX23_word__, 5, (some .long), false)
  | _ => none
def hb_F31 (isI : Bool) : ab_FT
  | _ => none
theorem hb_F31_ok (isI : Bool) : ab_Fd RJ11 isI hb_TB vwCl (hb_F31 isI) := by
  intro ix ci k ty ok h
  unfold hb_F31 at h
  split at h
  · cases h
def hb_C31 : ab_CT
  | _ => none
theorem hb_C31_ok : ab_Cd RJ11 hb_TB vwCl hb_C31 := by
  intro ix ci fs h
  unfold hb_C31 at h
  split at h
  · cases h
def hb_I31 : Nat → Option Int32
  | 76 => some (56320)
  | 110 => some (55232)
  | _ => none
theorem hb_I31_ok : ∀ ix v, hb_I31 ix = some v → Cond.constant RJ11 ix v ∈ hb_TB := by
  intro ix v h
  unfold hb_I31 at h
  split at h
  · cases h
    exact (hb_w 1151 (by decide +kernel))
  · cases h
    exact (hb_w 1147 (by decide +kernel))
  · cases h
def hb_L31 : Nat → Option Int64
  | _ => none
theorem hb_L31_ok : ∀ ix v, hb_L31 ix = some v → Cond.constantLong RJ11 ix v ∈ hb_TB := by
  intro ix v h
  unfold hb_L31 at h
  split at h
  · cases h
def hb_T31 : Nat → Option (Nat × Nat × Nat × Nat)
  | _ => none
def hb_M31 : Nat → Option ab_MI
  | 0 => some (31, yJ11_isValidCodePoint_9a6ad, cJ11_isValidCodePoint_9a6ad, 2, (some .boolean), false)
  | 1 => some (31, yJ11_highSurrogate_5068e, cJ11_highSurrogate_5068e, 1, (some .char), false)
  | 2 => some (31, yJ11_lowSurrogate_5068e, cJ11_lowSurrogate_5068e, 1, (some .char), false)
  | _ => none
def hb_F33 (isI : Bool) : ab_FT
  | _ => none
theorem hb_F33_ok (isI : Bool) : ab_Fd RJ6 isI hb_TB vwCl (hb_F33 isI) := by
  intro ix ci k ty ok h
  unfold hb_F33 at h
  split at h
  · cases h
def hb_C33 : ab_CT
  | _ => none
theorem hb_C33_ok : ab_Cd RJ6 hb_TB vwCl hb_C33 := by
  intro ix ci fs h
  unfold hb_C33 at h
  split at h
  · cases h
def hb_I33 : Nat → Option Int32
  | 264 => some (65536)
  | 265 => some (1431655765)
  | 266 => some (858993459)
  | 267 => some (252645135)
  | _ => none
theorem hb_I33_ok : ∀ ix v, hb_I33 ix = some v → Cond.constant RJ6 ix v ∈ hb_TB := by
  intro ix v h
  unfold hb_I33 at h
  split at h
  · cases h
    exact (hb_w 1713 (by decide +kernel))
  · cases h
    exact (hb_w 488 (by decide +kernel))
  · cases h
    exact (hb_w 489 (by decide +kernel))
  · cases h
    exact (hb_w 490 (by decide +kernel))
  · cases h
def hb_L33 : Nat → Option Int64
  | _ => none
theorem hb_L33_ok : ∀ ix v, hb_L33 ix = some v → Cond.constantLong RJ6 ix v ∈ hb_TB := by
  intro ix v h
  unfold hb_L33 at h
  split at h
  · cases h
def hb_T33 : Nat → Option (Nat × Nat × Nat × Nat)
  | _ => none
def hb_M33 : Nat → Option ab_MI
  | 0 => some (33, yJ6_compare_7cf53, cJ6_compare_7cf53, 2, (some .int), false)
  | 1 => some (33, yJ6_numberOfTrailingZeros_0f7a4, cJ6_numberOfTrailingZeros_0f7a4, 2, (some .int), false)
  | 2 => some (33, yJ6_bitCount_0f7a4, cJ6_bitCount_0f7a4, 1, (some .int), false)
  | _ => none
def hb_F35 (isI : Bool) : ab_FT
  | _ => none
theorem hb_F35_ok (isI : Bool) : ab_Fd RJ13 isI hb_TB vwCl (hb_F35 isI) := by
  intro ix ci k ty ok h
  unfold hb_F35 at h
  split at h
  · cases h
def hb_C35 : ab_CT
  | _ => none
theorem hb_C35_ok : ab_Cd RJ13 hb_TB vwCl hb_C35 := by
  intro ix ci fs h
  unfold hb_C35 at h
  split at h
  · cases h
def hb_I35 : Nat → Option Int32
  | _ => none
theorem hb_I35_ok : ∀ ix v, hb_I35 ix = some v → Cond.constant RJ13 ix v ∈ hb_TB := by
  intro ix v h
  unfold hb_I35 at h
  split at h
  · cases h
def hb_L35 : Nat → Option Int64
  | 314 => some (6148914691236517205)
  | 316 => some (3689348814741910323)
  | 318 => some (1085102592571150095)
  | _ => none
theorem hb_L35_ok : ∀ ix v, hb_L35 ix = some v → Cond.constantLong RJ13 ix v ∈ hb_TB := by
  intro ix v h
  unfold hb_L35 at h
  split at h
  · cases h
    exact (hb_w 1631 (by decide +kernel))
  · cases h
    exact (hb_w 1632 (by decide +kernel))
  · cases h
    exact (hb_w 1633 (by decide +kernel))
  · cases h
def hb_T35 : Nat → Option (Nat × Nat × Nat × Nat)
  | 311 => some (1, 8449, 1, 0)
  | _ => none
def hb_M35 : Nat → Option ab_MI
  | 0 => some (35, yJ13_numberOfTrailingZeros_95d88, cJ13_numberOfTrailingZeros_95d88, 3, (some .int), false)
  | 1 => some (35, yJ13_bitCount_95d88, cJ13_bitCount_95d88, 2, (some .int), false)
  | 2 => some (35, yJ13_signum_95d88, cJ13_signum_95d88, 2, (some .int), false)
  | _ => none
def hb_F36 (isI : Bool) : ab_FT
  | _ => none
theorem hb_F36_ok (isI : Bool) : ab_Fd RJ9 isI hb_TB vwCl (hb_F36 isI) := by
  intro ix ci k ty ok h
  unfold hb_F36 at h
  split at h
  · cases h
def hb_C36 : ab_CT
  | _ => none
theorem hb_C36_ok : ab_Cd RJ9 hb_TB vwCl hb_C36 := by
  intro ix ci fs h
  unfold hb_C36 at h
  split at h
  · cases h
def hb_I36 : Nat → Option Int32
  | _ => none
theorem hb_I36_ok : ∀ ix v, hb_I36 ix = some v → Cond.constant RJ9 ix v ∈ hb_TB := by
  intro ix v h
  unfold hb_I36 at h
  split at h
  · cases h
def hb_L36 : Nat → Option Int64
  | _ => none
theorem hb_L36_ok : ∀ ix v, hb_L36 ix = some v → Cond.constantLong RJ9 ix v ∈ hb_TB := by
  intro ix v h
  unfold hb_L36 at h
  split at h
  · cases h
def hb_T36 : Nat → Option (Nat × Nat × Nat × Nat)
  | _ => none
def hb_M36 : Nat → Option ab_MI
  | 0 => some (36, yJ9_max_7cf53, cJ9_max_7cf53, 2, (some .int), false)
  | 1 => some (36, yJ9_min_7cf53, cJ9_min_7cf53, 2, (some .int), false)
  | 2 => some (36, yJ9_min_f86c9, cJ9_min_f86c9, 4, (some .long), false)
  | _ => none
def hb_F37 (isI : Bool) : ab_FT
  | _ => none
theorem hb_F37_ok (isI : Bool) : ab_Fd RJ0 isI hb_TB vwCl (hb_F37 isI) := by
  intro ix ci k ty ok h
  unfold hb_F37 at h
  split at h
  · cases h
def hb_C37 : ab_CT
  | _ => none
theorem hb_C37_ok : ab_Cd RJ0 hb_TB vwCl hb_C37 := by
  intro ix ci fs h
  unfold hb_C37 at h
  split at h
  · cases h
def hb_I37 : Nat → Option Int32
  | _ => none
theorem hb_I37_ok : ∀ ix v, hb_I37 ix = some v → Cond.constant RJ0 ix v ∈ hb_TB := by
  intro ix v h
  unfold hb_I37 at h
  split at h
  · cases h
def hb_L37 : Nat → Option Int64
  | _ => none
theorem hb_L37_ok : ∀ ix v, hb_L37 ix = some v → Cond.constantLong RJ0 ix v ∈ hb_TB := by
  intro ix v h
  unfold hb_L37 at h
  split at h
  · cases h
def hb_T37 : Nat → Option (Nat × Nat × Nat × Nat)
  | 335 => some (6, 9477, 0, 0)
  | 492 => some (6, 9478, 0, 0)
  | 495 => some (1, 9728, 2, 0)
  | 498 => some (1, 9990, 2, 0)
  | 505 => some (6, 9472, 0, 0)
  | 541 => some (1, 9730, 2, 0)
  | 633 => some (6, 9476, 2, 0)
  | 637 => some (1, 9731, 4, 0)
  | 640 => some (1, 9986, 4, 0)
  | 1059 => some (1, 13056, 3, 0)
  | 1062 => some (1, 13057, 4, 0)
  | _ => none
def hb_M37 : Nat → Option ab_MI
  | 0 => some (37, yJ0_length_8abf5, cJ0_length_8abf5, 1, (some .int), false)
  | 1 => some (37, yJ0_charAt_5068e, cJ0_charAt_5068e, 2, (some .char), false)
  | 2 => some (37, yJ0_equals_9ea2d, cJ0_equals_9ea2d, 3, (some .boolean), false)
  | 3 => some (37, yJ0_indexOf_0f7a4, cJ0_indexOf_0f7a4, 2, (some .int), false)
  | 4 => some (37, yJ0_indexOf_7cf53, cJ0_indexOf_7cf53, 3, (some .int), false)
  | 5 => some (37, yJ0_coder_7d493, cJ0_coder_7d493, 1, (some .byte), false)
  | 6 => some (37, yJ0_isLatin1_aae02, cJ0_isLatin1_aae02, 1, (some .boolean), false)
  | 7 => some (37, yJ0_checkIndex_df160, cJ0_checkIndex_df160, 2, none, false)
  | 8 => some (37, yJ0_checkBoundsBeginEnd_23922, cJ0_checkBoundsBeginEnd_23922, 3, none, false)
  | _ => none
def hb_F38 (isI : Bool) : ab_FT
  | _ => none
theorem hb_F38_ok (isI : Bool) : ab_Fd RJ1 isI hb_TB vwCl (hb_F38 isI) := by
  intro ix ci k ty ok h
  unfold hb_F38 at h
  split at h
  · cases h
def hb_C38 : ab_CT
  | _ => none
theorem hb_C38_ok : ab_Cd RJ1 hb_TB vwCl hb_C38 := by
  intro ix ci fs h
  unfold hb_C38 at h
  split at h
  · cases h
def hb_I38 : Nat → Option Int32
  | _ => none
theorem hb_I38_ok : ∀ ix v, hb_I38 ix = some v → Cond.constant RJ1 ix v ∈ hb_TB := by
  intro ix v h
  unfold hb_I38 at h
  split at h
  · cases h
def hb_L38 : Nat → Option Int64
  | _ => none
theorem hb_L38_ok : ∀ ix v, hb_L38 ix = some v → Cond.constantLong RJ1 ix v ∈ hb_TB := by
  intro ix v h
  unfold hb_L38 at h
  split at h
  · cases h
def hb_T38 : Nat → Option (Nat × Nat × Nat × Nat)
  | 9 => some (1, 9479, 2, 0)
  | 38 => some (1, 9217, 2, 0)
  | 88 => some (1, 9729, 1, 0)
  | 92 => some (1, 9216, 2, 0)
  | 95 => some (1, 9732, 4, 0)
  | _ => none
def hb_M38 : Nat → Option ab_MI
  | 0 => some (38, yJ1_charAt_3b067, cJ1_charAt_3b067, 2, (some .char), false)
  | 1 => some (38, yJ1_canEncode_9a6ad, cJ1_canEncode_9a6ad, 1, (some .boolean), false)
  | 2 => some (38, yJ1_equals_b5fdf, cJ1_equals_b5fdf, 3, (some .boolean), false)
  | 3 => some (38, yJ1_indexOf_4cfef, cJ1_indexOf_4cfef, 4, (some .int), false)
  | 4 => some (38, yJ1_indexOfChar_4cfef, cJ1_indexOfChar_4cfef, 6, (some .int), false)
  | _ => none
def hb_F39 (isI : Bool) : ab_FT
  | _ => none
theorem hb_F39_ok (isI : Bool) : ab_Fd RJ2 isI hb_TB vwCl (hb_F39 isI) := by
  intro ix ci k ty ok h
  unfold hb_F39 at h
  split at h
  · cases h
def hb_C39 : ab_CT
  | _ => none
theorem hb_C39_ok : ab_Cd RJ2 hb_TB vwCl hb_C39 := by
  intro ix ci fs h
  unfold hb_C39 at h
  split at h
  · cases h
def hb_I39 : Nat → Option Int32
  | 227 => some (65536)
  | _ => none
theorem hb_I39_ok : ∀ ix v, hb_I39 ix = some v → Cond.constant RJ2 ix v ∈ hb_TB := by
  intro ix v h
  unfold hb_I39 at h
  split at h
  · cases h
    exact (hb_w 1122 (by decide +kernel))
  · cases h
def hb_L39 : Nat → Option Int64
  | _ => none
theorem hb_L39_ok : ∀ ix v, hb_L39 ix = some v → Cond.constantLong RJ2 ix v ∈ hb_TB := by
  intro ix v h
  unfold hb_L39 at h
  split at h
  · cases h
def hb_T39 : Nat → Option (Nat × Nat × Nat × Nat)
  | 48 => some (1, 9985, 1, 0)
  | 67 => some (1, 9991, 2, 0)
  | 71 => some (1, 9984, 2, 0)
  | 96 => some (1, 9992, 3, 0)
  | 157 => some (1, 7937, 1, 0)
  | 161 => some (1, 7938, 1, 0)
  | 164 => some (1, 7936, 1, 0)
  | 183 => some (1, 9217, 2, 0)
  | 224 => some (1, 9216, 2, 0)
  | 228 => some (1, 9987, 4, 0)
  | 232 => some (1, 9989, 4, 0)
  | 241 => some (1, 9480, 3, 0)
  | 244 => some (1, 9988, 4, 0)
  | 414 => some (1, 9479, 2, 0)
  | _ => none
def hb_M39 : Nat → Option ab_MI
  | 0 => some (39, yJ2_getChar_3b067, cJ2_getChar_3b067, 2, (some .char), false)
  | 1 => some (39, yJ2_length_9d52b, cJ2_length_9d52b, 1, (some .int), false)
  | 2 => some (39, yJ2_indexOf_4cfef, cJ2_indexOf_4cfef, 4, (some .int), false)
  | 3 => some (39, yJ2_indexOfChar_4cfef, cJ2_indexOfChar_4cfef, 4, (some .int), false)
  | 4 => some (39, yJ2_indexOfCharUnsafe_4cfef, cJ2_indexOfCharUnsafe_4cfef, 5, (some .int), false)
  | 5 => some (39, yJ2_indexOfSupplementary_4cfef, cJ2_indexOfSupplementary_4cfef, 7, (some .int), false)
  | 6 => some (39, yJ2_charAt_3b067, cJ2_charAt_3b067, 2, (some .char), false)
  | 7 => some (39, yJ2_checkIndex_2214a, cJ2_checkIndex_2214a, 2, none, false)
  | 8 => some (39, yJ2_checkBoundsBeginEnd_d044e, cJ2_checkBoundsBeginEnd_d044e, 3, none, false)
  | _ => none
def hb_F41 (isI : Bool) : ab_FT
  | _ => none
theorem hb_F41_ok (isI : Bool) : ab_Fd RJxa1e45 isI hb_TB vwCl (hb_F41 isI) := by
  intro ix ci k ty ok h
  unfold hb_F41 at h
  split at h
  · cases h
def hb_C41 : ab_CT
  | _ => none
theorem hb_C41_ok : ab_Cd RJxa1e45 hb_TB vwCl hb_C41 := by
  intro ix ci fs h
  unfold hb_C41 at h
  split at h
  · cases h
def hb_I41 : Nat → Option Int32
  | _ => none
theorem hb_I41_ok : ∀ ix v, hb_I41 ix = some v → Cond.constant RJxa1e45 ix v ∈ hb_TB := by
  intro ix v h
  unfold hb_I41 at h
  split at h
  · cases h
def hb_L41 : Nat → Option Int64
  | _ => none
theorem hb_L41_ok : ∀ ix v, hb_L41 ix = some v → Cond.constantLong RJxa1e45 ix v ∈ hb_TB := by
  intro ix v h
  unfold hb_L41 at h
  split at h
  · cases h
def hb_T41 : Nat → Option (Nat × Nat × Nat × Nat)
  | 1 => some (4, 0, 0, 0)
  | _ => none
def hb_M41 : Nat → Option ab_MI
  | 0 => some (41, yJxa1e45_init_da8c8, cJxa1e45_init_da8c8, 1, none, true)
  | _ => none
def hb_F42 (isI : Bool) : ab_FT
  | _ => none
theorem hb_F42_ok (isI : Bool) : ab_Fd RJxc12de isI hb_TB vwCl (hb_F42 isI) := by
  intro ix ci k ty ok h
  unfold hb_F42 at h
  split at h
  · cases h
def hb_C42 : ab_CT
  | _ => none
theorem hb_C42_ok : ab_Cd RJxc12de hb_TB vwCl hb_C42 := by
  intro ix ci fs h
  unfold hb_C42 at h
  split at h
  · cases h
def hb_I42 : Nat → Option Int32
  | _ => none
theorem hb_I42_ok : ∀ ix v, hb_I42 ix = some v → Cond.constant RJxc12de ix v ∈ hb_TB := by
  intro ix v h
  unfold hb_I42 at h
  split at h
  · cases h
def hb_L42 : Nat → Option Int64
  | _ => none
theorem hb_L42_ok : ∀ ix v, hb_L42 ix = some v → Cond.constantLong RJxc12de ix v ∈ hb_TB := by
  intro ix v h
  unfold hb_L42 at h
  split at h
  · cases h
def hb_T42 : Nat → Option (Nat × Nat × Nat × Nat)
  | 1 => some (2, 10496, 0, 0)
  | _ => none
def hb_M42 : Nat → Option ab_MI
  | 0 => some (42, yJxc12de_init_da8c8, cJxc12de_init_da8c8, 1, none, true)
  | _ => none
def hb_F43 (isI : Bool) : ab_FT
  | 9 => some (0, 1, (.array (.object "java/lang/Object")), true)
  | 48 => some (0, 2, .int, true)
  | _ => none
theorem hb_F43_ok (isI : Bool) : ab_Fd RJx4a65c isI hb_TB vwCl (hb_F43 isI) := by
  intro ix ci k ty ok h
  unfold hb_F43 at h
  split at h
  · cases h
    exact ⟨RJx4a65c, TJx4a65c, 3, tyJx4a65c, rfl, by decide, hb_inJx4a65c, (hb_w 1988 (by decide +kernel)), tyJx4a65c_ok, nmJx4a65c, rfl, fun _ => Or.inl rfl⟩
  · cases h
    exact ⟨RJx4a65c, TJx4a65c, 3, tyJx4a65c, rfl, by decide, hb_inJx4a65c, (hb_w 1989 (by decide +kernel)), tyJx4a65c_ok, nmJx4a65c, rfl, fun _ => Or.inl rfl⟩
  · cases h
def hb_C43 : ab_CT
  | _ => none
theorem hb_C43_ok : ab_Cd RJx4a65c hb_TB vwCl hb_C43 := by
  intro ix ci fs h
  unfold hb_C43 at h
  split at h
  · cases h
def hb_I43 : Nat → Option Int32
  | _ => none
theorem hb_I43_ok : ∀ ix v, hb_I43 ix = some v → Cond.constant RJx4a65c ix v ∈ hb_TB := by
  intro ix v h
  unfold hb_I43 at h
  split at h
  · cases h
def hb_L43 : Nat → Option Int64
  | _ => none
theorem hb_L43_ok : ∀ ix v, hb_L43 ix = some v → Cond.constantLong RJx4a65c ix v ∈ hb_TB := by
  intro ix v h
  unfold hb_L43 at h
  split at h
  · cases h
def hb_T43 : Nat → Option (Nat × Nat × Nat × Nat)
  | 1 => some (2, 10752, 0, 0)
  | 66 => some (1, 11266, 2, 0)
  | 69 => some (0, 11009, 1, 0)
  | 73 => some (1, 12800, 3, 0)
  | 79 => some (1, 9216, 2, 0)
  | 118 => some (1, 12032, 2, 0)
  | 123 => some (0, 11012, 1, 0)
  | 129 => some (0, 11010, 0, 0)
  | 131 => some (0, 11014, 3, 0)
  | _ => none
def hb_M43 : Nat → Option ab_MI
  | 0 => some (43, yJx4a65c_init_da8c8, cJx4a65c_init_da8c8, 1, none, true)
  | 1 => some (43, yJx4a65c_grow_92f84, cJx4a65c_grow_92f84, 4, (some (.array (.object "java/lang/Object"))), false)
  | 2 => some (43, yJx4a65c_grow_d5877, cJx4a65c_grow_d5877, 1, (some (.array (.object "java/lang/Object"))), false)
  | 3 => some (43, yJx4a65c_size_8abf5, cJx4a65c_size_8abf5, 1, (some .int), false)
  | 4 => some (43, yJx4a65c_elementData_915e3, cJx4a65c_elementData_915e3, 2, (some (.object "java/lang/Object")), false)
  | 5 => some (43, yJx4a65c_get_915e3, cJx4a65c_get_915e3, 2, (some (.object "java/lang/Object")), false)
  | 6 => some (43, yJx4a65c_add_72be8, cJx4a65c_add_72be8, 4, none, false)
  | 7 => some (43, yJx4a65c_add_9ea2d, cJx4a65c_add_9ea2d, 2, (some .boolean), false)
  | _ => none
def hb_F44 (isI : Bool) : ab_FT
  | _ => none
theorem hb_F44_ok (isI : Bool) : ab_Fd RJ7 isI hb_TB vwCl (hb_F44 isI) := by
  intro ix ci k ty ok h
  unfold hb_F44 at h
  split at h
  · cases h
def hb_C44 : ab_CT
  | _ => none
theorem hb_C44_ok : ab_Cd RJ7 hb_TB vwCl hb_C44 := by
  intro ix ci fs h
  unfold hb_C44 at h
  split at h
  · cases h
def hb_I44 : Nat → Option Int32
  | _ => none
theorem hb_I44_ok : ∀ ix v, hb_I44 ix = some v → Cond.constant RJ7 ix v ∈ hb_TB := by
  intro ix v h
  unfold hb_I44 at h
  split at h
  · cases h
def hb_L44 : Nat → Option Int64
  | _ => none
theorem hb_L44_ok : ∀ ix v, hb_L44 ix = some v → Cond.constantLong RJ7 ix v ∈ hb_TB := by
  intro ix v h
  unfold hb_L44 at h
  split at h
  · cases h
def hb_T44 : Nat → Option (Nat × Nat × Nat × Nat)
  | 150 => some (5, 0, 0, 0)
  | 300 => some (1, 11267, 3, 0)
  | 304 => some (1, 9217, 2, 0)
  | _ => none
def hb_M44 : Nat → Option ab_MI
  | 0 => some (44, yJ7_fill_d0a16, cJ7_fill_d0a16, 5, none, false)
  | 1 => some (44, yJ7_fill_53178, cJ7_fill_53178, 4, none, false)
  | 2 => some (44, yJ7_copyOf_1904c, cJ7_copyOf_1904c, 2, (some (.array (.object "java/lang/Object"))), false)
  | 3 => some (44, yJ7_copyOf_6403c, cJ7_copyOf_6403c, 4, (some (.array (.object "java/lang/Object"))), false)
  | 4 => some (44, yJ7_copyOf_9075b, cJ7_copyOf_9075b, 3, (some (.array .byte)), false)
  | 5 => some (44, yJ7_copyOf_59c91, cJ7_copyOf_59c91, 3, (some (.array .int)), false)
  | _ => none
def hb_F47 (isI : Bool) : ab_FT
  | _ => none
theorem hb_F47_ok (isI : Bool) : ab_Fd RJ15 isI hb_TB vwCl (hb_F47 isI) := by
  intro ix ci k ty ok h
  unfold hb_F47 at h
  split at h
  · cases h
def hb_C47 : ab_CT
  | _ => none
theorem hb_C47_ok : ab_Cd RJ15 hb_TB vwCl hb_C47 := by
  intro ix ci fs h
  unfold hb_C47 at h
  split at h
  · cases h
def hb_I47 : Nat → Option Int32
  | _ => none
theorem hb_I47_ok : ∀ ix v, hb_I47 ix = some v → Cond.constant RJ15 ix v ∈ hb_TB := by
  intro ix v h
  unfold hb_I47 at h
  split at h
  · cases h
def hb_L47 : Nat → Option Int64
  | _ => none
theorem hb_L47_ok : ∀ ix v, hb_L47 ix = some v → Cond.constantLong RJ15 ix v ∈ hb_TB := by
  intro ix v h
  unfold hb_L47 at h
  split at h
  · cases h
def hb_T47 : Nat → Option (Nat × Nat × Nat × Nat)
  | 105 => some (1, 13056, 3, 0)
  | _ => none
def hb_M47 : Nat → Option ab_MI
  | 0 => some (47, yJ15_checkIndex_7cf53, cJ15_checkIndex_7cf53, 2, (some .int), false)
  | _ => none
def hb_F50 (isI : Bool) : ab_FT
  | _ => none
theorem hb_F50_ok (isI : Bool) : ab_Fd RJ8 isI hb_TB vwCl (hb_F50 isI) := by
  intro ix ci k ty ok h
  unfold hb_F50 at h
  split at h
  · cases h
def hb_C50 : ab_CT
  | _ => none
theorem hb_C50_ok : ab_Cd RJ8 hb_TB vwCl hb_C50 := by
  intro ix ci fs h
  unfold hb_C50 at h
  split at h
  · cases h
def hb_I50 : Nat → Option Int32
  | 200 => some (2147483639)
  | _ => none
theorem hb_I50_ok : ∀ ix v, hb_I50 ix = some v → Cond.constant RJ8 ix v ∈ hb_TB := by
  intro ix v h
  unfold hb_I50 at h
  split at h
  · cases h
    exact (hb_w 2881 (by decide +kernel))
  · cases h
def hb_L50 : Nat → Option Int64
  | _ => none
theorem hb_L50_ok : ∀ ix v, hb_L50 ix = some v → Cond.constantLong RJ8 ix v ∈ hb_TB := by
  intro ix v h
  unfold hb_L50 at h
  split at h
  · cases h
def hb_T50 : Nat → Option (Nat × Nat × Nat × Nat)
  | 194 => some (1, 9216, 2, 0)
  | 201 => some (1, 12801, 2, 0)
  | _ => none
def hb_M50 : Nat → Option ab_MI
  | 0 => some (50, yJ8_newLength_cabcc, cJ8_newLength_cabcc, 4, (some .int), false)
  | 1 => some (50, yJ8_hugeLength_7cf53, cJ8_hugeLength_7cf53, 3, (some .int), false)
  | _ => none
def hb_F51 (isI : Bool) : ab_FT
  | _ => none
theorem hb_F51_ok (isI : Bool) : ab_Fd RJ3 isI hb_TB vwCl (hb_F51 isI) := by
  intro ix ci k ty ok h
  unfold hb_F51 at h
  split at h
  · cases h
def hb_C51 : ab_CT
  | _ => none
theorem hb_C51_ok : ab_Cd RJ3 hb_TB vwCl hb_C51 := by
  intro ix ci fs h
  unfold hb_C51 at h
  split at h
  · cases h
def hb_I51 : Nat → Option Int32
  | _ => none
theorem hb_I51_ok : ∀ ix v, hb_I51 ix = some v → Cond.constant RJ3 ix v ∈ hb_TB := by
  intro ix v h
  unfold hb_I51 at h
  split at h
  · cases h
def hb_L51 : Nat → Option Int64
  | _ => none
theorem hb_L51_ok : ∀ ix v, hb_L51 ix = some v → Cond.constantLong RJ3 ix v ∈ hb_TB := by
  intro ix v h
  unfold hb_L51 at h
  split at h
  · cases h
def hb_T51 : Nat → Option (Nat × Nat × Nat × Nat)
  | _ => none
def hb_M51 : Nat → Option ab_MI
  | 0 => some (51, yJ3_checkIndex_8e157, cJ3_checkIndex_8e157, 3, (some .int), false)
  | 1 => some (51, yJ3_checkFromToIndex_8c36e, cJ3_checkFromToIndex_8c36e, 4, (some .int), false)
  | _ => none

def hb_F0 (isI : Bool) : ab_FT
  | 11 => some (1, 5, (.array .int), isI)
  | 15 => some (1, 6, (.array .int), isI)
  | 18 => some (1, 7, (.array .int), isI)
  | 21 => some (1, 8, (.array .boolean), isI)
  | 25 => some (1, 9, (.array .long), isI)
  | 29 => some (1, 10, (.array .int), isI)
  | 32 => some (1, 11, (.array .int), isI)
  | 35 => some (1, 15, (.array .int), isI)
  | 38 => some (1, 16, (.array .int), isI)
  | 41 => some (1, 0, (.object "DispatchHouse$World"), isI)
  | 45 => some (1, 1, (.object "DispatchHouse$Nearness"), isI)
  | 49 => some (1, 2, (.object "DispatchHouse$Lists"), isI)
  | 53 => some (12, 6, (.array .int), false)
  | 64 => some (1, 4, .int, true)
  | 68 => some (1, 3, .int, true)
  | 85 => some (12, 7, (.array .int), false)
  | 98 => some (12, 16, .int, true)
  | 101 => some (1, 13, .long, true)
  | 105 => some (1, 14, .long, true)
  | 112 => some (1, 12, .int, true)
  | 115 => some (12, 1, (.object "DispatchHouse$Methods"), false)
  | 119 => some (6, 3, (.array .int), false)
  | 132 => some (6, 2, (.array .int), false)
  | 135 => some (6, 6, (.array .boolean), false)
  | 138 => some (6, 7, (.array .int), false)
  | 141 => some (6, 8, (.array .int), false)
  | 147 => some (6, 13, (.array .long), false)
  | 150 => some (6, 10, (.array .int), false)
  | 153 => some (6, 11, (.array .int), false)
  | 156 => some (6, 9, (.array .int), false)
  | 159 => some (12, 0, (.object "DispatchHouse$Kinds"), false)
  | 169 => some (6, 12, (.array .long), false)
  | _ => none
theorem hb_F0_ok (isI : Bool) : ab_Fd RX0 isI hb_TB vwCl (hb_F0 isI) := by
  intro ix ci k ty ok h
  unfold hb_F0 at h
  split at h
  · cases h
    exact ⟨RX0, TX0, 17, tyX0, rfl, by decide, hb_inX0, Or.inl (hb_w3 224 (by decide +kernel)), tyX0_ok, nmX0, rfl, fun h => Or.inr ⟨rfl, h, rfl⟩⟩
  · cases h
    exact ⟨RX0, TX0, 17, tyX0, rfl, by decide, hb_inX0, Or.inl (hb_w3 225 (by decide +kernel)), tyX0_ok, nmX0, rfl, fun h => Or.inr ⟨rfl, h, rfl⟩⟩
  · cases h
    exact ⟨RX0, TX0, 17, tyX0, rfl, by decide, hb_inX0, Or.inl (hb_w3 226 (by decide +kernel)), tyX0_ok, nmX0, rfl, fun h => Or.inr ⟨rfl, h, rfl⟩⟩
  · cases h
    exact ⟨RX0, TX0, 17, tyX0, rfl, by decide, hb_inX0, Or.inl (hb_w3 227 (by decide +kernel)), tyX0_ok, nmX0, rfl, fun h => Or.inr ⟨rfl, h, rfl⟩⟩
  · cases h
    exact ⟨RX0, TX0, 17, tyX0, rfl, by decide, hb_inX0, Or.inl (hb_w3 228 (by decide +kernel)), tyX0_ok, nmX0, rfl, fun h => Or.inr ⟨rfl, h, rfl⟩⟩
  · cases h
    exact ⟨RX0, TX0, 17, tyX0, rfl, by decide, hb_inX0, Or.inl (hb_w3 229 (by decide +kernel)), tyX0_ok, nmX0, rfl, fun h => Or.inr ⟨rfl, h, rfl⟩⟩
  · cases h
    exact ⟨RX0, TX0, 17, tyX0, rfl, by decide, hb_inX0, Or.inl (hb_w3 230 (by decide +kernel)), tyX0_ok, nmX0, rfl, fun h => Or.inr ⟨rfl, h, rfl⟩⟩
  · cases h
    exact ⟨RX0, TX0, 17, tyX0, rfl, by decide, hb_inX0, Or.inl (hb_w3 234 (by decide +kernel)), tyX0_ok, nmX0, rfl, fun h => Or.inr ⟨rfl, h, rfl⟩⟩
  · cases h
    exact ⟨RX0, TX0, 17, tyX0, rfl, by decide, hb_inX0, Or.inl (hb_w3 235 (by decide +kernel)), tyX0_ok, nmX0, rfl, fun h => Or.inr ⟨rfl, h, rfl⟩⟩
  · cases h
    exact ⟨RX0, TX0, 17, tyX0, rfl, by decide, hb_inX0, Or.inl (hb_w3 216 (by decide +kernel)), tyX0_ok, nmX0, rfl, fun h => Or.inr ⟨rfl, h, rfl⟩⟩
  · cases h
    exact ⟨RX0, TX0, 17, tyX0, rfl, by decide, hb_inX0, Or.inl (hb_w3 217 (by decide +kernel)), tyX0_ok, nmX0, rfl, fun h => Or.inr ⟨rfl, h, rfl⟩⟩
  · cases h
    exact ⟨RX0, TX0, 17, tyX0, rfl, by decide, hb_inX0, Or.inl (hb_w3 218 (by decide +kernel)), tyX0_ok, nmX0, rfl, fun h => Or.inr ⟨rfl, h, rfl⟩⟩
  · cases h
    exact ⟨RX11, TX11, 18, tyX11, rfl, by decide, hb_inX11, Or.inl (hb_w2 147 (by decide +kernel)), tyX11_ok, nmX11, rfl, fun h => by cases h⟩
  · cases h
    exact ⟨RX0, TX0, 17, tyX0, rfl, by decide, hb_inX0, Or.inl (hb_w3 222 (by decide +kernel)), tyX0_ok, nmX0, rfl, fun _ => Or.inl rfl⟩
  · cases h
    exact ⟨RX0, TX0, 17, tyX0, rfl, by decide, hb_inX0, Or.inl (hb_w3 220 (by decide +kernel)), tyX0_ok, nmX0, rfl, fun _ => Or.inl rfl⟩
  · cases h
    exact ⟨RX11, TX11, 18, tyX11, rfl, by decide, hb_inX11, Or.inl (hb_w2 151 (by decide +kernel)), tyX11_ok, nmX11, rfl, fun h => by cases h⟩
  · cases h
    exact ⟨RX11, TX11, 18, tyX11, rfl, by decide, hb_inX11, Or.inl (hb_w2 176 (by decide +kernel)), tyX11_ok, nmX11, rfl, fun _ => Or.inl rfl⟩
  · cases h
    exact ⟨RX0, TX0, 17, tyX0, rfl, by decide, hb_inX0, Or.inl (hb_w3 232 (by decide +kernel)), tyX0_ok, nmX0, rfl, fun _ => Or.inl rfl⟩
  · cases h
    exact ⟨RX0, TX0, 17, tyX0, rfl, by decide, hb_inX0, Or.inl (hb_w3 233 (by decide +kernel)), tyX0_ok, nmX0, rfl, fun _ => Or.inl rfl⟩
  · cases h
    exact ⟨RX0, TX0, 17, tyX0, rfl, by decide, hb_inX0, Or.inl (hb_w3 231 (by decide +kernel)), tyX0_ok, nmX0, rfl, fun _ => Or.inl rfl⟩
  · cases h
    exact ⟨RX11, TX11, 18, tyX11, rfl, by decide, hb_inX11, Or.inl (hb_w2 130 (by decide +kernel)), tyX11_ok, nmX11, rfl, fun h => by cases h⟩
  · cases h
    exact ⟨RX5, TX5, 14, tyX5, rfl, by decide, hb_inX5, Or.inl (hb_w1 120 (by decide +kernel)), tyX5_ok, nmX5, rfl, fun h => by cases h⟩
  · cases h
    exact ⟨RX5, TX5, 14, tyX5, rfl, by decide, hb_inX5, Or.inl (hb_w1 115 (by decide +kernel)), tyX5_ok, nmX5, rfl, fun h => by cases h⟩
  · cases h
    exact ⟨RX5, TX5, 14, tyX5, rfl, by decide, hb_inX5, Or.inl (hb_w1 131 (by decide +kernel)), tyX5_ok, nmX5, rfl, fun h => by cases h⟩
  · cases h
    exact ⟨RX5, TX5, 14, tyX5, rfl, by decide, hb_inX5, Or.inl (hb_w1 135 (by decide +kernel)), tyX5_ok, nmX5, rfl, fun h => by cases h⟩
  · cases h
    exact ⟨RX5, TX5, 14, tyX5, rfl, by decide, hb_inX5, Or.inl (hb_w1 140 (by decide +kernel)), tyX5_ok, nmX5, rfl, fun h => by cases h⟩
  · cases h
    exact ⟨RX5, TX5, 14, tyX5, rfl, by decide, hb_inX5, Or.inl (hb_w1 158 (by decide +kernel)), tyX5_ok, nmX5, rfl, fun h => by cases h⟩
  · cases h
    exact ⟨RX5, TX5, 14, tyX5, rfl, by decide, hb_inX5, Or.inl (hb_w1 148 (by decide +kernel)), tyX5_ok, nmX5, rfl, fun h => by cases h⟩
  · cases h
    exact ⟨RX5, TX5, 14, tyX5, rfl, by decide, hb_inX5, Or.inl (hb_w1 152 (by decide +kernel)), tyX5_ok, nmX5, rfl, fun h => by cases h⟩
  · cases h
    exact ⟨RX5, TX5, 14, tyX5, rfl, by decide, hb_inX5, Or.inl (hb_w1 144 (by decide +kernel)), tyX5_ok, nmX5, rfl, fun h => by cases h⟩
  · cases h
    exact ⟨RX11, TX11, 18, tyX11, rfl, by decide, hb_inX11, Or.inl (hb_w2 122 (by decide +kernel)), tyX11_ok, nmX11, rfl, fun h => by cases h⟩
  · cases h
    exact ⟨RX5, TX5, 14, tyX5, rfl, by decide, hb_inX5, Or.inl (hb_w1 155 (by decide +kernel)), tyX5_ok, nmX5, rfl, fun h => by cases h⟩
  · cases h
def hb_C0 : ab_CT
  | _ => none
theorem hb_C0_ok : ab_Cd RX0 hb_TB vwCl hb_C0 := by
  intro ix ci fs h
  unfold hb_C0 at h
  split at h
  · cases h
def hb_I0 : Nat → Option Int32
  | _ => none
theorem hb_I0_ok : ∀ ix v, hb_I0 ix = some v → Cond.constant RX0 ix v ∈ hb_TB := by
  intro ix v h
  unfold hb_I0 at h
  split at h
  · cases h
def hb_L0 : Nat → Option Int64
  | 88 => some (15)
  | _ => none
theorem hb_L0_ok : ∀ ix v, hb_L0 ix = some v → Cond.constantLong RX0 ix v ∈ hb_TB := by
  intro ix v h
  unfold hb_L0 at h
  split at h
  · cases h
    exact (hb_w7 185 (by decide +kernel))
  · cases h
def hb_T0 : Nat → Option (Nat × Nat × Nat × Nat)
  | 3 => some (4, 0, 0, 0)
  | 58 => some (1, 1025, 1, 0)
  | 71 => some (0, 773, 3, 4)
  | 77 => some (0, 6, 3, 1)
  | 81 => some (0, 5, 3, 1)
  | 90 => some (0, 10, 2, 1)
  | 94 => some (0, 11, 3, 1)
  | 108 => some (0, 2828, 3, 12)
  | 124 => some (1, 7, 2, 0)
  | 128 => some (0, 8, 2, 1)
  | 144 => some (0, 9, 2, 1)
  | 163 => some (0, 513, 2, 3)
  | 172 => some (0, 1538, 3, 7)
  | 177 => some (0, 12, 2, 1)
  | _ => none
def hb_F1 (isI : Bool) : ab_FT
  | 11 => some (2, 0, (.array .int), true)
  | 15 => some (2, 1, (.array .int), true)
  | 18 => some (2, 2, (.array .int), true)
  | 21 => some (2, 3, .int, true)
  | 25 => some (2, 4, .int, true)
  | _ => none
theorem hb_F1_ok (isI : Bool) : ab_Fd RX1 isI hb_TB vwCl (hb_F1 isI) := by
  intro ix ci k ty ok h
  unfold hb_F1 at h
  split at h
  · cases h
    exact ⟨RX1, TX1, 5, tyX1, rfl, by decide, hb_inX1, Or.inl (hb_w1 196 (by decide +kernel)), tyX1_ok, nmX1, rfl, fun _ => Or.inl rfl⟩
  · cases h
    exact ⟨RX1, TX1, 5, tyX1, rfl, by decide, hb_inX1, Or.inl (hb_w1 198 (by decide +kernel)), tyX1_ok, nmX1, rfl, fun _ => Or.inl rfl⟩
  · cases h
    exact ⟨RX1, TX1, 5, tyX1, rfl, by decide, hb_inX1, Or.inl (hb_w1 200 (by decide +kernel)), tyX1_ok, nmX1, rfl, fun _ => Or.inl rfl⟩
  · cases h
    exact ⟨RX1, TX1, 5, tyX1, rfl, by decide, hb_inX1, Or.inl (hb_w1 203 (by decide +kernel)), tyX1_ok, nmX1, rfl, fun _ => Or.inl rfl⟩
  · cases h
    exact ⟨RX1, TX1, 5, tyX1, rfl, by decide, hb_inX1, Or.inl (hb_w1 206 (by decide +kernel)), tyX1_ok, nmX1, rfl, fun _ => Or.inl rfl⟩
  · cases h
def hb_C1 : ab_CT
  | _ => none
theorem hb_C1_ok : ab_Cd RX1 hb_TB vwCl hb_C1 := by
  intro ix ci fs h
  unfold hb_C1 at h
  split at h
  · cases h
def hb_I1 : Nat → Option Int32
  | _ => none
theorem hb_I1_ok : ∀ ix v, hb_I1 ix = some v → Cond.constant RX1 ix v ∈ hb_TB := by
  intro ix v h
  unfold hb_I1 at h
  split at h
  · cases h
def hb_L1 : Nat → Option Int64
  | _ => none
theorem hb_L1_ok : ∀ ix v, hb_L1 ix = some v → Cond.constantLong RX1 ix v ∈ hb_TB := by
  intro ix v h
  unfold hb_L1 at h
  split at h
  · cases h
def hb_T1 : Nat → Option (Nat × Nat × Nat × Nat)
  | 5 => some (4, 0, 0, 0)
  | 28 => some (7, 0, 0, 0)
  | 34 => some (1, 11269, 2, 0)
  | _ => none
def hb_F2 (isI : Bool) : ab_FT
  | 9 => some (3, 0, (.array .boolean), isI)
  | 15 => some (3, 1, (.array .int), isI)
  | 19 => some (3, 2, (.array .int), isI)
  | 22 => some (3, 3, (.array .int), isI)
  | 25 => some (3, 5, (.array .int), isI)
  | 28 => some (3, 6, (.array .int), isI)
  | 31 => some (3, 7, (.array .int), isI)
  | 34 => some (3, 4, .int, true)
  | _ => none
theorem hb_F2_ok (isI : Bool) : ab_Fd RX2 isI hb_TB vwCl (hb_F2 isI) := by
  intro ix ci k ty ok h
  unfold hb_F2 at h
  split at h
  · cases h
    exact ⟨RX2, TX2, 8, tyX2, rfl, by decide, hb_inX2, Or.inl (hb_w1 66 (by decide +kernel)), tyX2_ok, nmX2, rfl, fun h => Or.inr ⟨rfl, h, rfl⟩⟩
  · cases h
    exact ⟨RX2, TX2, 8, tyX2, rfl, by decide, hb_inX2, Or.inl (hb_w1 69 (by decide +kernel)), tyX2_ok, nmX2, rfl, fun h => Or.inr ⟨rfl, h, rfl⟩⟩
  · cases h
    exact ⟨RX2, TX2, 8, tyX2, rfl, by decide, hb_inX2, Or.inl (hb_w1 70 (by decide +kernel)), tyX2_ok, nmX2, rfl, fun h => Or.inr ⟨rfl, h, rfl⟩⟩
  · cases h
    exact ⟨RX2, TX2, 8, tyX2, rfl, by decide, hb_inX2, Or.inl (hb_w1 72 (by decide +kernel)), tyX2_ok, nmX2, rfl, fun h => Or.inr ⟨rfl, h, rfl⟩⟩
  · cases h
    exact ⟨RX2, TX2, 8, tyX2, rfl, by decide, hb_inX2, Or.inl (hb_w1 75 (by decide +kernel)), tyX2_ok, nmX2, rfl, fun h => Or.inr ⟨rfl, h, rfl⟩⟩
  · cases h
    exact ⟨RX2, TX2, 8, tyX2, rfl, by decide, hb_inX2, Or.inl (hb_w1 76 (by decide +kernel)), tyX2_ok, nmX2, rfl, fun h => Or.inr ⟨rfl, h, rfl⟩⟩
  · cases h
    exact ⟨RX2, TX2, 8, tyX2, rfl, by decide, hb_inX2, Or.inl (hb_w1 77 (by decide +kernel)), tyX2_ok, nmX2, rfl, fun h => Or.inr ⟨rfl, h, rfl⟩⟩
  · cases h
    exact ⟨RX2, TX2, 8, tyX2, rfl, by decide, hb_inX2, Or.inl (hb_w1 73 (by decide +kernel)), tyX2_ok, nmX2, rfl, fun _ => Or.inl rfl⟩
  · cases h
def hb_C2 : ab_CT
  | _ => none
theorem hb_C2_ok : ab_Cd RX2 hb_TB vwCl hb_C2 := by
  intro ix ci fs h
  unfold hb_C2 at h
  split at h
  · cases h
def hb_I2 : Nat → Option Int32
  | _ => none
theorem hb_I2_ok : ∀ ix v, hb_I2 ix = some v → Cond.constant RX2 ix v ∈ hb_TB := by
  intro ix v h
  unfold hb_I2 at h
  split at h
  · cases h
def hb_L2 : Nat → Option Int64
  | _ => none
theorem hb_L2_ok : ∀ ix v, hb_L2 ix = some v → Cond.constantLong RX2 ix v ∈ hb_TB := by
  intro ix v h
  unfold hb_L2 at h
  split at h
  · cases h
def hb_T2 : Nat → Option (Nat × Nat × Nat × Nat)
  | 3 => some (4, 0, 0, 0)
  | 38 => some (1, 8450, 1, 0)
  | 44 => some (0, 520, 1, 3)
  | 48 => some (0, 525, 1, 3)
  | 52 => some (0, 526, 1, 3)
  | 55 => some (0, 514, 3, 3)
  | 59 => some (1, 11265, 2, 0)
  | 65 => some (0, 519, 4, 3)
  | 69 => some (0, 523, 0, 3)
  | 73 => some (0, 521, 1, 3)
  | 76 => some (0, 522, 2, 3)
  | 80 => some (0, 524, 1, 3)
  | _ => none
def hb_F3 (isI : Bool) : ab_FT
  | 9 => some (4, 1, (.array .int), isI)
  | 15 => some (4, 2, (.array .long), isI)
  | 19 => some (4, 3, (.array .long), isI)
  | 22 => some (4, 4, (.array .long), isI)
  | 25 => some (4, 5, (.array .long), isI)
  | 28 => some (4, 6, (.array .int), isI)
  | 31 => some (4, 7, (.array .int), isI)
  | 34 => some (4, 8, (.array .long), true)
  | 37 => some (4, 9, (.array .long), true)
  | 40 => some (4, 10, (.array .int), true)
  | 43 => some (4, 0, (.object "DispatchHouse$World"), isI)
  | 51 => some (12, 6, (.array .int), false)
  | 60 => some (12, 14, .int, true)
  | 67 => some (12, 13, (.array .int), false)
  | 73 => some (12, 11, (.array .long), false)
  | 76 => some (12, 12, (.array .long), false)
  | 83 => some (4, 12, .int, true)
  | 103 => some (12, 16, .int, true)
  | 116 => some (12, 9, (.array .long), false)
  | 119 => some (12, 10, (.array .long), false)
  | 122 => some (4, 11, .int, true)
  | _ => none
theorem hb_F3_ok (isI : Bool) : ab_Fd RX3 isI hb_TB vwCl (hb_F3 isI) := by
  intro ix ci k ty ok h
  unfold hb_F3 at h
  split at h
  · cases h
    exact ⟨RX3, TX3, 13, tyX3, rfl, by decide, hb_inX3, Or.inl (hb_w3 123 (by decide +kernel)), tyX3_ok, nmX3, rfl, fun h => Or.inr ⟨rfl, h, rfl⟩⟩
  · cases h
    exact ⟨RX3, TX3, 13, tyX3, rfl, by decide, hb_inX3, Or.inl (hb_w3 124 (by decide +kernel)), tyX3_ok, nmX3, rfl, fun h => Or.inr ⟨rfl, h, rfl⟩⟩
  · cases h
    exact ⟨RX3, TX3, 13, tyX3, rfl, by decide, hb_inX3, Or.inl (hb_w3 125 (by decide +kernel)), tyX3_ok, nmX3, rfl, fun h => Or.inr ⟨rfl, h, rfl⟩⟩
  · cases h
    exact ⟨RX3, TX3, 13, tyX3, rfl, by decide, hb_inX3, Or.inl (hb_w3 126 (by decide +kernel)), tyX3_ok, nmX3, rfl, fun h => Or.inr ⟨rfl, h, rfl⟩⟩
  · cases h
    exact ⟨RX3, TX3, 13, tyX3, rfl, by decide, hb_inX3, Or.inl (hb_w3 127 (by decide +kernel)), tyX3_ok, nmX3, rfl, fun h => Or.inr ⟨rfl, h, rfl⟩⟩
  · cases h
    exact ⟨RX3, TX3, 13, tyX3, rfl, by decide, hb_inX3, Or.inl (hb_w3 128 (by decide +kernel)), tyX3_ok, nmX3, rfl, fun h => Or.inr ⟨rfl, h, rfl⟩⟩
  · cases h
    exact ⟨RX3, TX3, 13, tyX3, rfl, by decide, hb_inX3, Or.inl (hb_w3 129 (by decide +kernel)), tyX3_ok, nmX3, rfl, fun h => Or.inr ⟨rfl, h, rfl⟩⟩
  · cases h
    exact ⟨RX3, TX3, 13, tyX3, rfl, by decide, hb_inX3, Or.inl (hb_w3 130 (by decide +kernel)), tyX3_ok, nmX3, rfl, fun _ => Or.inl rfl⟩
  · cases h
    exact ⟨RX3, TX3, 13, tyX3, rfl, by decide, hb_inX3, Or.inl (hb_w3 131 (by decide +kernel)), tyX3_ok, nmX3, rfl, fun _ => Or.inl rfl⟩
  · cases h
    exact ⟨RX3, TX3, 13, tyX3, rfl, by decide, hb_inX3, Or.inl (hb_w3 132 (by decide +kernel)), tyX3_ok, nmX3, rfl, fun _ => Or.inl rfl⟩
  · cases h
    exact ⟨RX3, TX3, 13, tyX3, rfl, by decide, hb_inX3, Or.inl (hb_w3 122 (by decide +kernel)), tyX3_ok, nmX3, rfl, fun h => Or.inr ⟨rfl, h, rfl⟩⟩
  · cases h
    exact ⟨RX11, TX11, 18, tyX11, rfl, by decide, hb_inX11, Or.inl (hb_w2 143 (by decide +kernel)), tyX11_ok, nmX11, rfl, fun h => by cases h⟩
  · cases h
    exact ⟨RX11, TX11, 18, tyX11, rfl, by decide, hb_inX11, Or.inl (hb_w2 170 (by decide +kernel)), tyX11_ok, nmX11, rfl, fun _ => Or.inl rfl⟩
  · cases h
    exact ⟨RX11, TX11, 18, tyX11, rfl, by decide, hb_inX11, Or.inl (hb_w2 168 (by decide +kernel)), tyX11_ok, nmX11, rfl, fun h => by cases h⟩
  · cases h
    exact ⟨RX11, TX11, 18, tyX11, rfl, by decide, hb_inX11, Or.inl (hb_w2 163 (by decide +kernel)), tyX11_ok, nmX11, rfl, fun h => by cases h⟩
  · cases h
    exact ⟨RX11, TX11, 18, tyX11, rfl, by decide, hb_inX11, Or.inl (hb_w2 165 (by decide +kernel)), tyX11_ok, nmX11, rfl, fun h => by cases h⟩
  · cases h
    exact ⟨RX3, TX3, 13, tyX3, rfl, by decide, hb_inX3, Or.inl (hb_w3 134 (by decide +kernel)), tyX3_ok, nmX3, rfl, fun _ => Or.inl rfl⟩
  · cases h
    exact ⟨RX11, TX11, 18, tyX11, rfl, by decide, hb_inX11, Or.inl (hb_w2 177 (by decide +kernel)), tyX11_ok, nmX11, rfl, fun _ => Or.inl rfl⟩
  · cases h
    exact ⟨RX11, TX11, 18, tyX11, rfl, by decide, hb_inX11, Or.inl (hb_w2 159 (by decide +kernel)), tyX11_ok, nmX11, rfl, fun h => by cases h⟩
  · cases h
    exact ⟨RX11, TX11, 18, tyX11, rfl, by decide, hb_inX11, Or.inl (hb_w2 161 (by decide +kernel)), tyX11_ok, nmX11, rfl, fun h => by cases h⟩
  · cases h
    exact ⟨RX3, TX3, 13, tyX3, rfl, by decide, hb_inX3, Or.inl (hb_w3 133 (by decide +kernel)), tyX3_ok, nmX3, rfl, fun _ => Or.inl rfl⟩
  · cases h
def hb_C3 : ab_CT
  | _ => none
theorem hb_C3_ok : ab_Cd RX3 hb_TB vwCl hb_C3 := by
  intro ix ci fs h
  unfold hb_C3 at h
  split at h
  · cases h
def hb_I3 : Nat → Option Int32
  | 111 => some (2147483647)
  | _ => none
theorem hb_I3_ok : ∀ ix v, hb_I3 ix = some v → Cond.constant RX3 ix v ∈ hb_TB := by
  intro ix v h
  unfold hb_I3 at h
  split at h
  · cases h
    exact (hb_w7 30 (by decide +kernel))
  · cases h
def hb_L3 : Nat → Option Int64
  | 101 => some (-1)
  | 129 => some (-7046029254386353131)
  | 131 => some (-4417276706812531889)
  | _ => none
theorem hb_L3_ok : ∀ ix v, hb_L3 ix = some v → Cond.constantLong RX3 ix v ∈ hb_TB := by
  intro ix v h
  unfold hb_L3 at h
  split at h
  · cases h
    exact (hb_w7 29 (by decide +kernel))
  · cases h
    exact (hb_w7 56 (by decide +kernel))
  · cases h
    exact (hb_w7 57 (by decide +kernel))
  · cases h
def hb_T3 : Nat → Option (Nat × Nat × Nat × Nat)
  | 3 => some (4, 0, 0, 0)
  | 47 => some (0, 776, 1, 4)
  | 56 => some (0, 779, 3, 4)
  | 64 => some (0, 780, 0, 4)
  | 70 => some (0, 783, 0, 4)
  | 79 => some (0, 781, 2, 4)
  | 86 => some (0, 2827, 1, 12)
  | 90 => some (0, 774, 2, 4)
  | 97 => some (0, 775, 4, 4)
  | 106 => some (0, 778, 1, 4)
  | 112 => some (1, 777, 2, 0)
  | 125 => some (0, 782, 2, 4)
  | _ => none
def hb_F4 (isI : Bool) : ab_FT
  | 11 => some (5, 2, (.array .long), isI)
  | 15 => some (5, 3, (.array .long), isI)
  | 18 => some (5, 4, (.array .long), isI)
  | 21 => some (5, 11, .int, true)
  | 25 => some (5, 15, (.array .int), isI)
  | 29 => some (5, 17, (.array .int), isI)
  | 32 => some (5, 0, (.object "DispatchHouse$World"), isI)
  | 36 => some (5, 1, (.object "DispatchHouse$Chooser"), isI)
  | 46 => some (12, 2, (.object "DispatchHouse$Code"), false)
  | 53 => some (5, 7, .int, true)
  | 56 => some (2, 0, (.array .int), true)
  | 61 => some (5, 14, .int, true)
  | 64 => some (2, 2, (.array .int), true)
  | 71 => some (2, 1, (.array .int), true)
  | 74 => some (12, 6, (.array .int), false)
  | 80 => some (5, 6, .int, true)
  | 83 => some (5, 10, .long, true)
  | 115 => some (5, 9, .int, true)
  | 122 => some (1, 3, .int, true)
  | 125 => some (1, 4, .int, true)
  | 128 => some (5, 5, .int, true)
  | 131 => some (5, 8, .int, true)
  | 134 => some (5, 16, .int, true)
  | 137 => some (5, 18, .int, true)
  | 140 => some (5, 12, .boolean, true)
  | 144 => some (5, 13, .long, true)
  | 168 => some (12, 0, (.object "DispatchHouse$Kinds"), false)
  | 209 => some (12, 1, (.object "DispatchHouse$Methods"), false)
  | 213 => some (6, 4, (.array .int), false)
  | 221 => some (6, 1, (.array .int), false)
  | 224 => some (6, 2, (.array .int), false)
  | 227 => some (12, 7, (.array .int), false)
  | _ => none
theorem hb_F4_ok (isI : Bool) : ab_Fd RX4 isI hb_TB vwCl (hb_F4 isI) := by
  intro ix ci k ty ok h
  unfold hb_F4 at h
  split at h
  · cases h
    exact ⟨RX4, TX4, 19, tyX4, rfl, by decide, hb_inX4, Or.inl (hb_w4 38 (by decide +kernel)), tyX4_ok, nmX4, rfl, fun h => Or.inr ⟨rfl, h, rfl⟩⟩
  · cases h
    exact ⟨RX4, TX4, 19, tyX4, rfl, by decide, hb_inX4, Or.inl (hb_w4 39 (by decide +kernel)), tyX4_ok, nmX4, rfl, fun h => Or.inr ⟨rfl, h, rfl⟩⟩
  · cases h
    exact ⟨RX4, TX4, 19, tyX4, rfl, by decide, hb_inX4, Or.inl (hb_w4 40 (by decide +kernel)), tyX4_ok, nmX4, rfl, fun h => Or.inr ⟨rfl, h, rfl⟩⟩
  · cases h
    exact ⟨RX4, TX4, 19, tyX4, rfl, by decide, hb_inX4, Or.inl (hb_w4 47 (by decide +kernel)), tyX4_ok, nmX4, rfl, fun _ => Or.inl rfl⟩
  · cases h
    exact ⟨RX4, TX4, 19, tyX4, rfl, by decide, hb_inX4, Or.inl (hb_w4 55 (by decide +kernel)), tyX4_ok, nmX4, rfl, fun h => Or.inr ⟨rfl, h, rfl⟩⟩
  · cases h
    exact ⟨RX4, TX4, 19, tyX4, rfl, by decide, hb_inX4, Or.inl (hb_w4 59 (by decide +kernel)), tyX4_ok, nmX4, rfl, fun h => Or.inr ⟨rfl, h, rfl⟩⟩
  · cases h
    exact ⟨RX4, TX4, 19, tyX4, rfl, by decide, hb_inX4, Or.inl (hb_w4 35 (by decide +kernel)), tyX4_ok, nmX4, rfl, fun h => Or.inr ⟨rfl, h, rfl⟩⟩
  · cases h
    exact ⟨RX4, TX4, 19, tyX4, rfl, by decide, hb_inX4, Or.inl (hb_w4 36 (by decide +kernel)), tyX4_ok, nmX4, rfl, fun h => Or.inr ⟨rfl, h, rfl⟩⟩
  · cases h
    exact ⟨RX11, TX11, 18, tyX11, rfl, by decide, hb_inX11, Or.inl (hb_w2 136 (by decide +kernel)), tyX11_ok, nmX11, rfl, fun h => by cases h⟩
  · cases h
    exact ⟨RX4, TX4, 19, tyX4, rfl, by decide, hb_inX4, Or.inl (hb_w4 43 (by decide +kernel)), tyX4_ok, nmX4, rfl, fun _ => Or.inl rfl⟩
  · cases h
    exact ⟨RX1, TX1, 5, tyX1, rfl, by decide, hb_inX1, Or.inl (hb_w1 197 (by decide +kernel)), tyX1_ok, nmX1, rfl, fun _ => Or.inl rfl⟩
  · cases h
    exact ⟨RX4, TX4, 19, tyX4, rfl, by decide, hb_inX4, Or.inl (hb_w4 53 (by decide +kernel)), tyX4_ok, nmX4, rfl, fun _ => Or.inl rfl⟩
  · cases h
    exact ⟨RX1, TX1, 5, tyX1, rfl, by decide, hb_inX1, Or.inl (hb_w1 201 (by decide +kernel)), tyX1_ok, nmX1, rfl, fun _ => Or.inl rfl⟩
  · cases h
    exact ⟨RX1, TX1, 5, tyX1, rfl, by decide, hb_inX1, Or.inl (hb_w1 199 (by decide +kernel)), tyX1_ok, nmX1, rfl, fun _ => Or.inl rfl⟩
  · cases h
    exact ⟨RX11, TX11, 18, tyX11, rfl, by decide, hb_inX11, Or.inl (hb_w2 146 (by decide +kernel)), tyX11_ok, nmX11, rfl, fun h => by cases h⟩
  · cases h
    exact ⟨RX4, TX4, 19, tyX4, rfl, by decide, hb_inX4, Or.inl (hb_w4 42 (by decide +kernel)), tyX4_ok, nmX4, rfl, fun _ => Or.inl rfl⟩
  · cases h
    exact ⟨RX4, TX4, 19, tyX4, rfl, by decide, hb_inX4, Or.inl (hb_w4 46 (by decide +kernel)), tyX4_ok, nmX4, rfl, fun _ => Or.inl rfl⟩
  · cases h
    exact ⟨RX4, TX4, 19, tyX4, rfl, by decide, hb_inX4, Or.inl (hb_w4 45 (by decide +kernel)), tyX4_ok, nmX4, rfl, fun _ => Or.inl rfl⟩
  · cases h
    exact ⟨RX0, TX0, 17, tyX0, rfl, by decide, hb_inX0, Or.inl (hb_w3 219 (by decide +kernel)), tyX0_ok, nmX0, rfl, fun _ => Or.inl rfl⟩
  · cases h
    exact ⟨RX0, TX0, 17, tyX0, rfl, by decide, hb_inX0, Or.inl (hb_w3 221 (by decide +kernel)), tyX0_ok, nmX0, rfl, fun _ => Or.inl rfl⟩
  · cases h
    exact ⟨RX4, TX4, 19, tyX4, rfl, by decide, hb_inX4, Or.inl (hb_w4 41 (by decide +kernel)), tyX4_ok, nmX4, rfl, fun _ => Or.inl rfl⟩
  · cases h
    exact ⟨RX4, TX4, 19, tyX4, rfl, by decide, hb_inX4, Or.inl (hb_w4 44 (by decide +kernel)), tyX4_ok, nmX4, rfl, fun _ => Or.inl rfl⟩
  · cases h
    exact ⟨RX4, TX4, 19, tyX4, rfl, by decide, hb_inX4, Or.inl (hb_w4 57 (by decide +kernel)), tyX4_ok, nmX4, rfl, fun _ => Or.inl rfl⟩
  · cases h
    exact ⟨RX4, TX4, 19, tyX4, rfl, by decide, hb_inX4, Or.inl (hb_w4 61 (by decide +kernel)), tyX4_ok, nmX4, rfl, fun _ => Or.inl rfl⟩
  · cases h
    exact ⟨RX4, TX4, 19, tyX4, rfl, by decide, hb_inX4, Or.inl (hb_w4 49 (by decide +kernel)), tyX4_ok, nmX4, rfl, fun _ => Or.inl rfl⟩
  · cases h
    exact ⟨RX4, TX4, 19, tyX4, rfl, by decide, hb_inX4, Or.inl (hb_w4 51 (by decide +kernel)), tyX4_ok, nmX4, rfl, fun _ => Or.inl rfl⟩
  · cases h
    exact ⟨RX11, TX11, 18, tyX11, rfl, by decide, hb_inX11, Or.inl (hb_w2 125 (by decide +kernel)), tyX11_ok, nmX11, rfl, fun h => by cases h⟩
  · cases h
    exact ⟨RX11, TX11, 18, tyX11, rfl, by decide, hb_inX11, Or.inl (hb_w2 133 (by decide +kernel)), tyX11_ok, nmX11, rfl, fun h => by cases h⟩
  · cases h
    exact ⟨RX5, TX5, 14, tyX5, rfl, by decide, hb_inX5, Or.inl (hb_w1 124 (by decide +kernel)), tyX5_ok, nmX5, rfl, fun h => by cases h⟩
  · cases h
    exact ⟨RX5, TX5, 14, tyX5, rfl, by decide, hb_inX5, Or.inl (hb_w1 112 (by decide +kernel)), tyX5_ok, nmX5, rfl, fun h => by cases h⟩
  · cases h
    exact ⟨RX5, TX5, 14, tyX5, rfl, by decide, hb_inX5, Or.inl (hb_w1 117 (by decide +kernel)), tyX5_ok, nmX5, rfl, fun h => by cases h⟩
  · cases h
    exact ⟨RX11, TX11, 18, tyX11, rfl, by decide, hb_inX11, Or.inl (hb_w2 154 (by decide +kernel)), tyX11_ok, nmX11, rfl, fun h => by cases h⟩
  · cases h
def hb_C4 : ab_CT
  | _ => none
theorem hb_C4_ok : ab_Cd RX4 hb_TB vwCl hb_C4 := by
  intro ix ci fs h
  unfold hb_C4 at h
  split at h
  · cases h
def hb_I4 : Nat → Option Int32
  | 52 => some (10000000)
  | 234 => some (2147483647)
  | _ => none
theorem hb_I4_ok : ∀ ix v, hb_I4 ix = some v → Cond.constant RX4 ix v ∈ hb_TB := by
  intro ix v h
  unfold hb_I4 at h
  split at h
  · cases h
    exact (hb_w7 148 (by decide +kernel))
  · cases h
    exact (hb_w7 238 (by decide +kernel))
  · cases h
def hb_L4 : Nat → Option Int64
  | 40 => some (4294967295)
  | 166 => some (15)
  | 230 => some (2)
  | 242 => some (3)
  | 253 => some (120)
  | _ => none
theorem hb_L4_ok : ∀ ix v, hb_L4 ix = some v → Cond.constantLong RX4 ix v ∈ hb_TB := by
  intro ix v h
  unfold hb_L4 at h
  split at h
  · cases h
    exact (hb_w8 2 (by decide +kernel))
  · cases h
    exact (hb_w8 45 (by decide +kernel))
  · cases h
    exact (hb_w7 237 (by decide +kernel))
  · cases h
    exact (hb_w8 15 (by decide +kernel))
  · cases h
    exact (hb_w8 33 (by decide +kernel))
  · cases h
def hb_T4 : Nat → Option (Nat × Nat × Nat × Nat)
  | 5 => some (4, 0, 0, 0)
  | 42 => some (0, 1028, 1, 5)
  | 67 => some (0, 1029, 3, 5)
  | 77 => some (0, 1032, 1, 5)
  | 87 => some (0, 4, 4, 1)
  | 93 => some (0, 1042, 1, 5)
  | 97 => some (0, 1044, 1, 5)
  | 100 => some (0, 1031, 0, 5)
  | 104 => some (0, 1048, 1, 5)
  | 108 => some (0, 1040, 1, 5)
  | 111 => some (0, 1033, 2, 5)
  | 118 => some (1, 1026, 2, 0)
  | 147 => some (0, 1030, 1, 5)
  | 150 => some (1, 1034, 2, 0)
  | 154 => some (0, 1038, 1, 5)
  | 157 => some (0, 1039, 1, 5)
  | 160 => some (0, 1037, 0, 5)
  | 163 => some (0, 1035, 2, 5)
  | 172 => some (1, 1025, 1, 0)
  | 176 => some (0, 513, 2, 3)
  | 182 => some (1, 1036, 3, 0)
  | 186 => some (0, 1, 2, 1)
  | 190 => some (0, 1043, 5, 5)
  | 194 => some (0, 2, 2, 1)
  | 197 => some (0, 1045, 2, 5)
  | 200 => some (0, 3, 3, 1)
  | 203 => some (5, 0, 0, 0)
  | 218 => some (0, 1041, 2, 5)
  | 235 => some (0, 1046, 0, 5)
  | 238 => some (0, 1047, 1, 5)
  | 244 => some (0, 1049, 2, 5)
  | 248 => some (8, 0, 0, 0)
  | _ => none
def hb_F5 (isI : Bool) : ab_FT
  | 11 => some (6, 1, (.array .int), isI)
  | 15 => some (6, 2, (.array .int), isI)
  | 18 => some (6, 3, (.array .int), isI)
  | 21 => some (6, 4, (.array .int), isI)
  | 24 => some (6, 5, (.array .int), isI)
  | 27 => some (6, 6, (.array .boolean), isI)
  | 31 => some (6, 7, (.array .int), isI)
  | 34 => some (6, 8, (.array .int), isI)
  | 37 => some (6, 9, (.array .int), isI)
  | 40 => some (6, 10, (.array .int), isI)
  | 43 => some (6, 11, (.array .int), isI)
  | 46 => some (6, 12, (.array .long), isI)
  | 50 => some (6, 13, (.array .long), isI)
  | 53 => some (6, 0, .int, true)
  | _ => none
theorem hb_F5_ok (isI : Bool) : ab_Fd RX5 isI hb_TB vwCl (hb_F5 isI) := by
  intro ix ci k ty ok h
  unfold hb_F5 at h
  split at h
  · cases h
    exact ⟨RX5, TX5, 14, tyX5, rfl, by decide, hb_inX5, Or.inl (hb_w1 108 (by decide +kernel)), tyX5_ok, nmX5, rfl, fun h => Or.inr ⟨rfl, h, rfl⟩⟩
  · cases h
    exact ⟨RX5, TX5, 14, tyX5, rfl, by decide, hb_inX5, Or.inl (hb_w1 113 (by decide +kernel)), tyX5_ok, nmX5, rfl, fun h => Or.inr ⟨rfl, h, rfl⟩⟩
  · cases h
    exact ⟨RX5, TX5, 14, tyX5, rfl, by decide, hb_inX5, Or.inl (hb_w1 118 (by decide +kernel)), tyX5_ok, nmX5, rfl, fun h => Or.inr ⟨rfl, h, rfl⟩⟩
  · cases h
    exact ⟨RX5, TX5, 14, tyX5, rfl, by decide, hb_inX5, Or.inl (hb_w1 122 (by decide +kernel)), tyX5_ok, nmX5, rfl, fun h => Or.inr ⟨rfl, h, rfl⟩⟩
  · cases h
    exact ⟨RX5, TX5, 14, tyX5, rfl, by decide, hb_inX5, Or.inl (hb_w1 125 (by decide +kernel)), tyX5_ok, nmX5, rfl, fun h => Or.inr ⟨rfl, h, rfl⟩⟩
  · cases h
    exact ⟨RX5, TX5, 14, tyX5, rfl, by decide, hb_inX5, Or.inl (hb_w1 129 (by decide +kernel)), tyX5_ok, nmX5, rfl, fun h => Or.inr ⟨rfl, h, rfl⟩⟩
  · cases h
    exact ⟨RX5, TX5, 14, tyX5, rfl, by decide, hb_inX5, Or.inl (hb_w1 133 (by decide +kernel)), tyX5_ok, nmX5, rfl, fun h => Or.inr ⟨rfl, h, rfl⟩⟩
  · cases h
    exact ⟨RX5, TX5, 14, tyX5, rfl, by decide, hb_inX5, Or.inl (hb_w1 137 (by decide +kernel)), tyX5_ok, nmX5, rfl, fun h => Or.inr ⟨rfl, h, rfl⟩⟩
  · cases h
    exact ⟨RX5, TX5, 14, tyX5, rfl, by decide, hb_inX5, Or.inl (hb_w1 141 (by decide +kernel)), tyX5_ok, nmX5, rfl, fun h => Or.inr ⟨rfl, h, rfl⟩⟩
  · cases h
    exact ⟨RX5, TX5, 14, tyX5, rfl, by decide, hb_inX5, Or.inl (hb_w1 145 (by decide +kernel)), tyX5_ok, nmX5, rfl, fun h => Or.inr ⟨rfl, h, rfl⟩⟩
  · cases h
    exact ⟨RX5, TX5, 14, tyX5, rfl, by decide, hb_inX5, Or.inl (hb_w1 149 (by decide +kernel)), tyX5_ok, nmX5, rfl, fun h => Or.inr ⟨rfl, h, rfl⟩⟩
  · cases h
    exact ⟨RX5, TX5, 14, tyX5, rfl, by decide, hb_inX5, Or.inl (hb_w1 153 (by decide +kernel)), tyX5_ok, nmX5, rfl, fun h => Or.inr ⟨rfl, h, rfl⟩⟩
  · cases h
    exact ⟨RX5, TX5, 14, tyX5, rfl, by decide, hb_inX5, Or.inl (hb_w1 156 (by decide +kernel)), tyX5_ok, nmX5, rfl, fun h => Or.inr ⟨rfl, h, rfl⟩⟩
  · cases h
    exact ⟨RX5, TX5, 14, tyX5, rfl, by decide, hb_inX5, Or.inl (hb_w1 103 (by decide +kernel)), tyX5_ok, nmX5, rfl, fun _ => Or.inl rfl⟩
  · cases h
def hb_C5 : ab_CT
  | _ => none
theorem hb_C5_ok : ab_Cd RX5 hb_TB vwCl hb_C5 := by
  intro ix ci fs h
  unfold hb_C5 at h
  split at h
  · cases h
def hb_I5 : Nat → Option Int32
  | _ => none
theorem hb_I5_ok : ∀ ix v, hb_I5 ix = some v → Cond.constant RX5 ix v ∈ hb_TB := by
  intro ix v h
  unfold hb_I5 at h
  split at h
  · cases h
def hb_L5 : Nat → Option Int64
  | 57 => some (-1)
  | _ => none
theorem hb_L5_ok : ∀ ix v, hb_L5 ix = some v → Cond.constantLong RX5 ix v ∈ hb_TB := by
  intro ix v h
  unfold hb_L5 at h
  split at h
  · cases h
    exact (hb_w5 84 (by decide +kernel))
  · cases h
def hb_T5 : Nat → Option (Nat × Nat × Nat × Nat)
  | 3 => some (4, 0, 0, 0)
  | 59 => some (0, 1285, 2, 6)
  | 63 => some (0, 1286, 2, 6)
  | _ => none
def hb_F6 (isI : Bool) : ab_FT
  | 9 => some (7, 2, .int, true)
  | 15 => some (7, 3, (.array .int), true)
  | 19 => some (7, 0, (.object "DispatchHouse$World"), isI)
  | 28 => some (7, 1, (.object "DispatchHouse$Space"), isI)
  | 38 => some (12, 1, (.object "DispatchHouse$Methods"), false)
  | 54 => some (6, 1, (.array .int), false)
  | 57 => some (12, 6, (.array .int), false)
  | 60 => some (6, 5, (.array .int), false)
  | 63 => some (12, 0, (.object "DispatchHouse$Kinds"), false)
  | 67 => some (12, 15, .int, true)
  | 76 => some (12, 8, (.array .int), false)
  | 116 => some (6, 0, .int, true)
  | 119 => some (6, 8, (.array .int), false)
  | 122 => some (6, 9, (.array .int), false)
  | 125 => some (6, 10, (.array .int), false)
  | 128 => some (6, 11, (.array .int), false)
  | _ => none
theorem hb_F6_ok (isI : Bool) : ab_Fd RX6 isI hb_TB vwCl (hb_F6 isI) := by
  intro ix ci k ty ok h
  unfold hb_F6 at h
  split at h
  · cases h
    exact ⟨RX6, TX6, 4, tyX6, rfl, by decide, hb_inX6, Or.inl (hb_w3 105 (by decide +kernel)), tyX6_ok, nmX6, rfl, fun _ => Or.inl rfl⟩
  · cases h
    exact ⟨RX6, TX6, 4, tyX6, rfl, by decide, hb_inX6, Or.inl (hb_w3 106 (by decide +kernel)), tyX6_ok, nmX6, rfl, fun _ => Or.inl rfl⟩
  · cases h
    exact ⟨RX6, TX6, 4, tyX6, rfl, by decide, hb_inX6, Or.inl (hb_w3 103 (by decide +kernel)), tyX6_ok, nmX6, rfl, fun h => Or.inr ⟨rfl, h, rfl⟩⟩
  · cases h
    exact ⟨RX6, TX6, 4, tyX6, rfl, by decide, hb_inX6, Or.inl (hb_w3 104 (by decide +kernel)), tyX6_ok, nmX6, rfl, fun h => Or.inr ⟨rfl, h, rfl⟩⟩
  · cases h
    exact ⟨RX11, TX11, 18, tyX11, rfl, by decide, hb_inX11, Or.inl (hb_w2 127 (by decide +kernel)), tyX11_ok, nmX11, rfl, fun h => by cases h⟩
  · cases h
    exact ⟨RX5, TX5, 14, tyX5, rfl, by decide, hb_inX5, Or.inl (hb_w1 109 (by decide +kernel)), tyX5_ok, nmX5, rfl, fun h => by cases h⟩
  · cases h
    exact ⟨RX11, TX11, 18, tyX11, rfl, by decide, hb_inX11, Or.inl (hb_w2 145 (by decide +kernel)), tyX11_ok, nmX11, rfl, fun h => by cases h⟩
  · cases h
    exact ⟨RX5, TX5, 14, tyX5, rfl, by decide, hb_inX5, Or.inl (hb_w1 126 (by decide +kernel)), tyX5_ok, nmX5, rfl, fun h => by cases h⟩
  · cases h
    exact ⟨RX11, TX11, 18, tyX11, rfl, by decide, hb_inX11, Or.inl (hb_w2 121 (by decide +kernel)), tyX11_ok, nmX11, rfl, fun h => by cases h⟩
  · cases h
    exact ⟨RX11, TX11, 18, tyX11, rfl, by decide, hb_inX11, Or.inl (hb_w2 172 (by decide +kernel)), tyX11_ok, nmX11, rfl, fun _ => Or.inl rfl⟩
  · cases h
    exact ⟨RX11, TX11, 18, tyX11, rfl, by decide, hb_inX11, Or.inl (hb_w2 156 (by decide +kernel)), tyX11_ok, nmX11, rfl, fun h => by cases h⟩
  · cases h
    exact ⟨RX5, TX5, 14, tyX5, rfl, by decide, hb_inX5, Or.inl (hb_w1 104 (by decide +kernel)), tyX5_ok, nmX5, rfl, fun _ => Or.inl rfl⟩
  · cases h
    exact ⟨RX5, TX5, 14, tyX5, rfl, by decide, hb_inX5, Or.inl (hb_w1 139 (by decide +kernel)), tyX5_ok, nmX5, rfl, fun h => by cases h⟩
  · cases h
    exact ⟨RX5, TX5, 14, tyX5, rfl, by decide, hb_inX5, Or.inl (hb_w1 143 (by decide +kernel)), tyX5_ok, nmX5, rfl, fun h => by cases h⟩
  · cases h
    exact ⟨RX5, TX5, 14, tyX5, rfl, by decide, hb_inX5, Or.inl (hb_w1 147 (by decide +kernel)), tyX5_ok, nmX5, rfl, fun h => by cases h⟩
  · cases h
    exact ⟨RX5, TX5, 14, tyX5, rfl, by decide, hb_inX5, Or.inl (hb_w1 151 (by decide +kernel)), tyX5_ok, nmX5, rfl, fun h => by cases h⟩
  · cases h
def hb_C6 : ab_CT
  | 23 => some (10, [.null, .null, .null, .int 0, .null, .null, .null, .int 0, .null, .null, .int 0, .long 0])
  | _ => none
theorem hb_C6_ok : ab_Cd RX6 hb_TB vwCl hb_C6 := by
  intro ix ci fs h
  unfold hb_C6 at h
  split at h
  · cases h
    exact ⟨RX9, TX9, 12, tyX9, rfl, hb_inX9, tyX9_ok, (hb_w3 58 (by decide +kernel)), (hb_w3 59 (by decide +kernel)), (hb_w1 15 (by decide +kernel)), by decide +kernel, rfl, fun _ => rfl⟩
  · cases h
def hb_I6 : Nat → Option Int32
  | 108 => some (1000000)
  | _ => none
theorem hb_I6_ok : ∀ ix v, hb_I6 ix = some v → Cond.constant RX6 ix v ∈ hb_TB := by
  intro ix v h
  unfold hb_I6 at h
  split at h
  · cases h
    exact (hb_w6 214 (by decide +kernel))
  · cases h
def hb_L6 : Nat → Option Int64
  | _ => none
theorem hb_L6_ok : ∀ ix v, hb_L6 ix = some v → Cond.constantLong RX6 ix v ∈ hb_TB := by
  intro ix v h
  unfold hb_L6 at h
  split at h
  · cases h
def hb_T6 : Nat → Option (Nat × Nat × Nat × Nat)
  | 3 => some (4, 0, 0, 0)
  | 25 => some (2, 2304, 1, 0)
  | 32 => some (1, 11265, 2, 0)
  | 44 => some (0, 1285, 2, 6)
  | 50 => some (0, 1539, 3, 7)
  | 70 => some (0, 515, 3, 3)
  | 79 => some (0, 513, 2, 3)
  | 82 => some (1, 8448, 2, 0)
  | 88 => some (0, 1284, 1, 6)
  | 92 => some (0, 1540, 0, 7)
  | 95 => some (0, 1541, 2, 7)
  | 99 => some (0, 2305, 0, 10)
  | 102 => some (0, 2306, 2, 10)
  | 105 => some (0, 2308, 0, 10)
  | 109 => some (0, 2309, 0, 10)
  | 113 => some (0, 2311, 2, 10)
  | _ => none
def hb_F7 (isI : Bool) : ab_FT
  | 12 => some (8, 1, (.object "DispatchHouse$Signs"), isI)
  | 18 => some (8, 0, (.object "DispatchHouse$World"), isI)
  | 34 => some (9, 4, .int, true)
  | 38 => some (8, 4, .int, true)
  | 74 => some (12, 2, (.object "DispatchHouse$Code"), false)
  | 78 => some (2, 3, .int, true)
  | 83 => some (8, 7, .boolean, true)
  | 87 => some (8, 8, .int, true)
  | 90 => some (12, 3, (.array .int), false)
  | 97 => some (8, 3, .int, true)
  | 100 => some (8, 5, .int, true)
  | 103 => some (8, 6, .int, true)
  | 106 => some (8, 2, .int, true)
  | 109 => some (9, 0, (.array .int), true)
  | 112 => some (9, 1, (.array .int), true)
  | 115 => some (9, 2, (.array .long), true)
  | 119 => some (9, 3, (.array .long), true)
  | 142 => some (12, 0, (.object "DispatchHouse$Kinds"), false)
  | 146 => some (3, 4, .int, true)
  | 170 => some (12, 6, (.array .int), false)
  | 173 => some (12, 7, (.array .int), false)
  | 176 => some (12, 8, (.array .int), false)
  | 179 => some (12, 1, (.object "DispatchHouse$Methods"), false)
  | 183 => some (6, 0, .int, true)
  | 194 => some (6, 2, (.array .int), false)
  | 197 => some (6, 3, (.array .int), false)
  | 200 => some (8, 10, .int, true)
  | 203 => some (6, 13, (.array .long), false)
  | 210 => some (6, 4, (.array .int), false)
  | 219 => some (6, 5, (.array .int), false)
  | 225 => some (6, 6, (.array .boolean), false)
  | 229 => some (6, 7, (.array .int), false)
  | 256 => some (8, 11, .int, true)
  | 259 => some (8, 12, .long, true)
  | 265 => some (8, 9, .int, true)
  | 274 => some (2, 2, (.array .int), true)
  | 316 => some (3, 0, (.array .boolean), false)
  | _ => none
theorem hb_F7_ok (isI : Bool) : ab_Fd RX7 isI hb_TB vwCl (hb_F7 isI) := by
  intro ix ci k ty ok h
  unfold hb_F7 at h
  split at h
  · cases h
    exact ⟨RX7, TX7, 13, tyX7, rfl, by decide, hb_inX7, Or.inl (hb_w3 12 (by decide +kernel)), tyX7_ok, nmX7, rfl, fun h => Or.inr ⟨rfl, h, rfl⟩⟩
  · cases h
    exact ⟨RX7, TX7, 13, tyX7, rfl, by decide, hb_inX7, Or.inl (hb_w3 11 (by decide +kernel)), tyX7_ok, nmX7, rfl, fun h => Or.inr ⟨rfl, h, rfl⟩⟩
  · cases h
    exact ⟨RX8, TX8, 5, tyX8, rfl, by decide, hb_inX8, Or.inl (hb_w2 238 (by decide +kernel)), tyX8_ok, nmX8, rfl, fun _ => Or.inl rfl⟩
  · cases h
    exact ⟨RX7, TX7, 13, tyX7, rfl, by decide, hb_inX7, Or.inl (hb_w3 16 (by decide +kernel)), tyX7_ok, nmX7, rfl, fun _ => Or.inl rfl⟩
  · cases h
    exact ⟨RX11, TX11, 18, tyX11, rfl, by decide, hb_inX11, Or.inl (hb_w2 135 (by decide +kernel)), tyX11_ok, nmX11, rfl, fun h => by cases h⟩
  · cases h
    exact ⟨RX1, TX1, 5, tyX1, rfl, by decide, hb_inX1, Or.inl (hb_w1 204 (by decide +kernel)), tyX1_ok, nmX1, rfl, fun _ => Or.inl rfl⟩
  · cases h
    exact ⟨RX7, TX7, 13, tyX7, rfl, by decide, hb_inX7, Or.inl (hb_w3 19 (by decide +kernel)), tyX7_ok, nmX7, rfl, fun _ => Or.inl rfl⟩
  · cases h
    exact ⟨RX7, TX7, 13, tyX7, rfl, by decide, hb_inX7, Or.inl (hb_w3 20 (by decide +kernel)), tyX7_ok, nmX7, rfl, fun _ => Or.inl rfl⟩
  · cases h
    exact ⟨RX11, TX11, 18, tyX11, rfl, by decide, hb_inX11, Or.inl (hb_w2 138 (by decide +kernel)), tyX11_ok, nmX11, rfl, fun h => by cases h⟩
  · cases h
    exact ⟨RX7, TX7, 13, tyX7, rfl, by decide, hb_inX7, Or.inl (hb_w3 15 (by decide +kernel)), tyX7_ok, nmX7, rfl, fun _ => Or.inl rfl⟩
  · cases h
    exact ⟨RX7, TX7, 13, tyX7, rfl, by decide, hb_inX7, Or.inl (hb_w3 17 (by decide +kernel)), tyX7_ok, nmX7, rfl, fun _ => Or.inl rfl⟩
  · cases h
    exact ⟨RX7, TX7, 13, tyX7, rfl, by decide, hb_inX7, Or.inl (hb_w3 18 (by decide +kernel)), tyX7_ok, nmX7, rfl, fun _ => Or.inl rfl⟩
  · cases h
    exact ⟨RX7, TX7, 13, tyX7, rfl, by decide, hb_inX7, Or.inl (hb_w3 13 (by decide +kernel)), tyX7_ok, nmX7, rfl, fun _ => Or.inl rfl⟩
  · cases h
    exact ⟨RX8, TX8, 5, tyX8, rfl, by decide, hb_inX8, Or.inl (hb_w2 231 (by decide +kernel)), tyX8_ok, nmX8, rfl, fun _ => Or.inl rfl⟩
  · cases h
    exact ⟨RX8, TX8, 5, tyX8, rfl, by decide, hb_inX8, Or.inl (hb_w2 233 (by decide +kernel)), tyX8_ok, nmX8, rfl, fun _ => Or.inl rfl⟩
  · cases h
    exact ⟨RX8, TX8, 5, tyX8, rfl, by decide, hb_inX8, Or.inl (hb_w2 235 (by decide +kernel)), tyX8_ok, nmX8, rfl, fun _ => Or.inl rfl⟩
  · cases h
    exact ⟨RX8, TX8, 5, tyX8, rfl, by decide, hb_inX8, Or.inl (hb_w2 237 (by decide +kernel)), tyX8_ok, nmX8, rfl, fun _ => Or.inl rfl⟩
  · cases h
    exact ⟨RX11, TX11, 18, tyX11, rfl, by decide, hb_inX11, Or.inl (hb_w2 124 (by decide +kernel)), tyX11_ok, nmX11, rfl, fun h => by cases h⟩
  · cases h
    exact ⟨RX2, TX2, 8, tyX2, rfl, by decide, hb_inX2, Or.inl (hb_w1 74 (by decide +kernel)), tyX2_ok, nmX2, rfl, fun _ => Or.inl rfl⟩
  · cases h
    exact ⟨RX11, TX11, 18, tyX11, rfl, by decide, hb_inX11, Or.inl (hb_w2 149 (by decide +kernel)), tyX11_ok, nmX11, rfl, fun h => by cases h⟩
  · cases h
    exact ⟨RX11, TX11, 18, tyX11, rfl, by decide, hb_inX11, Or.inl (hb_w2 153 (by decide +kernel)), tyX11_ok, nmX11, rfl, fun h => by cases h⟩
  · cases h
    exact ⟨RX11, TX11, 18, tyX11, rfl, by decide, hb_inX11, Or.inl (hb_w2 157 (by decide +kernel)), tyX11_ok, nmX11, rfl, fun h => by cases h⟩
  · cases h
    exact ⟨RX11, TX11, 18, tyX11, rfl, by decide, hb_inX11, Or.inl (hb_w2 132 (by decide +kernel)), tyX11_ok, nmX11, rfl, fun h => by cases h⟩
  · cases h
    exact ⟨RX5, TX5, 14, tyX5, rfl, by decide, hb_inX5, Or.inl (hb_w1 107 (by decide +kernel)), tyX5_ok, nmX5, rfl, fun _ => Or.inl rfl⟩
  · cases h
    exact ⟨RX5, TX5, 14, tyX5, rfl, by decide, hb_inX5, Or.inl (hb_w1 116 (by decide +kernel)), tyX5_ok, nmX5, rfl, fun h => by cases h⟩
  · cases h
    exact ⟨RX5, TX5, 14, tyX5, rfl, by decide, hb_inX5, Or.inl (hb_w1 121 (by decide +kernel)), tyX5_ok, nmX5, rfl, fun h => by cases h⟩
  · cases h
    exact ⟨RX7, TX7, 13, tyX7, rfl, by decide, hb_inX7, Or.inl (hb_w3 22 (by decide +kernel)), tyX7_ok, nmX7, rfl, fun _ => Or.inl rfl⟩
  · cases h
    exact ⟨RX5, TX5, 14, tyX5, rfl, by decide, hb_inX5, Or.inl (hb_w1 159 (by decide +kernel)), tyX5_ok, nmX5, rfl, fun h => by cases h⟩
  · cases h
    exact ⟨RX5, TX5, 14, tyX5, rfl, by decide, hb_inX5, Or.inl (hb_w1 123 (by decide +kernel)), tyX5_ok, nmX5, rfl, fun h => by cases h⟩
  · cases h
    exact ⟨RX5, TX5, 14, tyX5, rfl, by decide, hb_inX5, Or.inl (hb_w1 128 (by decide +kernel)), tyX5_ok, nmX5, rfl, fun h => by cases h⟩
  · cases h
    exact ⟨RX5, TX5, 14, tyX5, rfl, by decide, hb_inX5, Or.inl (hb_w1 132 (by decide +kernel)), tyX5_ok, nmX5, rfl, fun h => by cases h⟩
  · cases h
    exact ⟨RX5, TX5, 14, tyX5, rfl, by decide, hb_inX5, Or.inl (hb_w1 136 (by decide +kernel)), tyX5_ok, nmX5, rfl, fun h => by cases h⟩
  · cases h
    exact ⟨RX7, TX7, 13, tyX7, rfl, by decide, hb_inX7, Or.inl (hb_w3 23 (by decide +kernel)), tyX7_ok, nmX7, rfl, fun _ => Or.inl rfl⟩
  · cases h
    exact ⟨RX7, TX7, 13, tyX7, rfl, by decide, hb_inX7, Or.inl (hb_w3 24 (by decide +kernel)), tyX7_ok, nmX7, rfl, fun _ => Or.inl rfl⟩
  · cases h
    exact ⟨RX7, TX7, 13, tyX7, rfl, by decide, hb_inX7, Or.inl (hb_w3 21 (by decide +kernel)), tyX7_ok, nmX7, rfl, fun _ => Or.inl rfl⟩
  · cases h
    exact ⟨RX1, TX1, 5, tyX1, rfl, by decide, hb_inX1, Or.inl (hb_w1 202 (by decide +kernel)), tyX1_ok, nmX1, rfl, fun _ => Or.inl rfl⟩
  · cases h
    exact ⟨RX2, TX2, 8, tyX2, rfl, by decide, hb_inX2, Or.inl (hb_w1 68 (by decide +kernel)), tyX2_ok, nmX2, rfl, fun h => by cases h⟩
  · cases h
def hb_C7 : ab_CT
  | 9 => some (9, [.null, .null, .null, .null, .int 0])
  | _ => none
theorem hb_C7_ok : ab_Cd RX7 hb_TB vwCl hb_C7 := by
  intro ix ci fs h
  unfold hb_C7 at h
  split at h
  · cases h
    exact ⟨RX8, TX8, 5, tyX8, rfl, hb_inX8, tyX8_ok, (hb_w2 224 (by decide +kernel)), (hb_w2 225 (by decide +kernel)), (hb_w1 6 (by decide +kernel)), by decide +kernel, rfl, fun _ => rfl⟩
  · cases h
def hb_I7 : Nat → Option Int32
  | _ => none
theorem hb_I7_ok : ∀ ix v, hb_I7 ix = some v → Cond.constant RX7 ix v ∈ hb_TB := by
  intro ix v h
  unfold hb_I7 at h
  split at h
  · cases h
def hb_L7 : Nat → Option Int64
  | 168 => some (3)
  | 232 => some (-1)
  | _ => none
theorem hb_L7_ok : ∀ ix v, hb_L7 ix = some v → Cond.constantLong RX7 ix v ∈ hb_TB := by
  intro ix v h
  unfold hb_L7 at h
  split at h
  · cases h
    exact (hb_w5 71 (by decide +kernel))
  · cases h
    exact (hb_w5 101 (by decide +kernel))
  · cases h
def hb_T7 : Nat → Option (Nat × Nat × Nat × Nat)
  | 3 => some (4, 0, 0, 0)
  | 11 => some (3, 2048, 0, 0)
  | 22 => some (0, 2049, 2, 9)
  | 26 => some (0, 1795, 0, 8)
  | 29 => some (0, 2823, 0, 12)
  | 41 => some (0, 1798, 0, 8)
  | 45 => some (0, 1803, 0, 8)
  | 48 => some (0, 1804, 0, 8)
  | 51 => some (0, 1805, 0, 8)
  | 54 => some (0, 1806, 0, 8)
  | 57 => some (0, 1799, 1, 8)
  | 61 => some (0, 1796, 0, 8)
  | 65 => some (0, 2825, 0, 12)
  | 68 => some (0, 2824, 0, 12)
  | 71 => some (0, 1797, 0, 8)
  | 94 => some (0, 1814, 1, 8)
  | 122 => some (0, 2819, 2, 12)
  | 126 => some (0, 1800, 2, 8)
  | 130 => some (0, 2820, 1, 12)
  | 134 => some (0, 2818, 3, 12)
  | 138 => some (0, 1801, 1, 8)
  | 151 => some (0, 1802, 1, 8)
  | 154 => some (0, 516, 1, 3)
  | 157 => some (0, 517, 1, 3)
  | 160 => some (0, 518, 2, 3)
  | 164 => some (0, 2821, 3, 12)
  | 188 => some (0, 1282, 2, 6)
  | 191 => some (0, 1807, 1, 8)
  | 206 => some (0, 1810, 2, 8)
  | 213 => some (0, 1287, 1, 6)
  | 216 => some (0, 1808, 2, 8)
  | 222 => some (0, 1809, 0, 8)
  | 234 => some (0, 1811, 2, 8)
  | 240 => some (0, 1812, 1, 8)
  | 243 => some (7, 0, 0, 0)
  | 249 => some (0, 1283, 5, 6)
  | 253 => some (0, 1813, 0, 8)
  | 263 => some (0, 257, 1, 2)
  | 268 => some (0, 1816, 1, 8)
  | 271 => some (0, 258, 2, 2)
  | 277 => some (0, 1817, 1, 8)
  | 280 => some (0, 1819, 1, 8)
  | 283 => some (0, 1820, 1, 8)
  | 286 => some (0, 1821, 1, 8)
  | 289 => some (0, 1815, 2, 8)
  | 292 => some (0, 1822, 1, 8)
  | 295 => some (0, 1818, 2, 8)
  | 298 => some (0, 259, 2, 2)
  | 301 => some (0, 1823, 1, 8)
  | 304 => some (0, 1824, 1, 8)
  | 307 => some (0, 1825, 1, 8)
  | 310 => some (0, 1826, 1, 8)
  | 313 => some (0, 1827, 1, 8)
  | 319 => some (0, 1828, 2, 8)
  | _ => none
def hb_F8 (isI : Bool) : ab_FT
  | 7 => some (9, 0, (.array .int), true)
  | 13 => some (9, 1, (.array .int), true)
  | 16 => some (9, 2, (.array .long), true)
  | 20 => some (9, 3, (.array .long), true)
  | 29 => some (9, 4, .int, true)
  | _ => none
theorem hb_F8_ok (isI : Bool) : ab_Fd RX8 isI hb_TB vwCl (hb_F8 isI) := by
  intro ix ci k ty ok h
  unfold hb_F8 at h
  split at h
  · cases h
    exact ⟨RX8, TX8, 5, tyX8, rfl, by decide, hb_inX8, Or.inl (hb_w2 230 (by decide +kernel)), tyX8_ok, nmX8, rfl, fun _ => Or.inl rfl⟩
  · cases h
    exact ⟨RX8, TX8, 5, tyX8, rfl, by decide, hb_inX8, Or.inl (hb_w2 232 (by decide +kernel)), tyX8_ok, nmX8, rfl, fun _ => Or.inl rfl⟩
  · cases h
    exact ⟨RX8, TX8, 5, tyX8, rfl, by decide, hb_inX8, Or.inl (hb_w2 234 (by decide +kernel)), tyX8_ok, nmX8, rfl, fun _ => Or.inl rfl⟩
  · cases h
    exact ⟨RX8, TX8, 5, tyX8, rfl, by decide, hb_inX8, Or.inl (hb_w2 236 (by decide +kernel)), tyX8_ok, nmX8, rfl, fun _ => Or.inl rfl⟩
  · cases h
    exact ⟨RX8, TX8, 5, tyX8, rfl, by decide, hb_inX8, Or.inl (hb_w2 239 (by decide +kernel)), tyX8_ok, nmX8, rfl, fun _ => Or.inl rfl⟩
  · cases h
def hb_C8 : ab_CT
  | _ => none
theorem hb_C8_ok : ab_Cd RX8 hb_TB vwCl hb_C8 := by
  intro ix ci fs h
  unfold hb_C8 at h
  split at h
  · cases h
def hb_I8 : Nat → Option Int32
  | _ => none
theorem hb_I8_ok : ∀ ix v, hb_I8 ix = some v → Cond.constant RX8 ix v ∈ hb_TB := by
  intro ix v h
  unfold hb_I8 at h
  split at h
  · cases h
def hb_L8 : Nat → Option Int64
  | 54 => some (10)
  | 56 => some (1099511627776)
  | 64 => some (2147483647)
  | _ => none
theorem hb_L8_ok : ∀ ix v, hb_L8 ix = some v → Cond.constantLong RX8 ix v ∈ hb_TB := by
  intro ix v h
  unfold hb_L8 at h
  split at h
  · cases h
    exact (hb_w4 168 (by decide +kernel))
  · cases h
    exact (hb_w4 169 (by decide +kernel))
  · cases h
    exact (hb_w4 173 (by decide +kernel))
  · cases h
def hb_T8 : Nat → Option (Nat × Nat × Nat × Nat)
  | 1 => some (4, 0, 0, 0)
  | 23 => some (7, 0, 0, 0)
  | 33 => some (0, 2051, 3, 9)
  | 37 => some (0, 2050, 4, 9)
  | 41 => some (0, 2052, 3, 9)
  | 44 => some (1, 2055, 1, 0)
  | 48 => some (0, 2053, 3, 9)
  | 51 => some (0, 2054, 3, 9)
  | 58 => some (9, 0, 0, 0)
  | 66 => some (1, 2057, 3, 0)
  | 71 => some (6, 9475, 1, 0)
  | 76 => some (6, 9472, 0, 0)
  | 80 => some (6, 9473, 1, 0)
  | 86 => some (1, 2058, 4, 0)
  | _ => none
def hb_F9 (isI : Bool) : ab_FT
  | 11 => some (10, 1, (.array .int), isI)
  | 15 => some (10, 2, (.array .boolean), isI)
  | 19 => some (10, 4, (.array .int), isI)
  | 22 => some (10, 5, (.array .int), isI)
  | 25 => some (10, 6, (.array .long), isI)
  | 29 => some (10, 8, (.array .int), isI)
  | 32 => some (10, 9, (.array .long), isI)
  | 35 => some (10, 0, (.object "DispatchHouse$World"), isI)
  | 45 => some (10, 3, .int, true)
  | 49 => some (10, 7, .int, true)
  | 52 => some (12, 1, (.object "DispatchHouse$Methods"), false)
  | 58 => some (6, 6, (.array .boolean), false)
  | 63 => some (6, 7, (.array .int), false)
  | 70 => some (6, 8, (.array .int), false)
  | 73 => some (6, 9, (.array .int), false)
  | 76 => some (12, 0, (.object "DispatchHouse$Kinds"), false)
  | 80 => some (6, 10, (.array .int), false)
  | 83 => some (6, 11, (.array .int), false)
  | 94 => some (6, 12, (.array .long), false)
  | 97 => some (10, 10, .int, true)
  | 100 => some (10, 11, .long, true)
  | 112 => some (6, 13, (.array .long), false)
  | _ => none
theorem hb_F9_ok (isI : Bool) : ab_Fd RX9 isI hb_TB vwCl (hb_F9 isI) := by
  intro ix ci k ty ok h
  unfold hb_F9 at h
  split at h
  · cases h
    exact ⟨RX9, TX9, 12, tyX9, rfl, by decide, hb_inX9, Or.inl (hb_w3 67 (by decide +kernel)), tyX9_ok, nmX9, rfl, fun h => Or.inr ⟨rfl, h, rfl⟩⟩
  · cases h
    exact ⟨RX9, TX9, 12, tyX9, rfl, by decide, hb_inX9, Or.inl (hb_w3 68 (by decide +kernel)), tyX9_ok, nmX9, rfl, fun h => Or.inr ⟨rfl, h, rfl⟩⟩
  · cases h
    exact ⟨RX9, TX9, 12, tyX9, rfl, by decide, hb_inX9, Or.inl (hb_w3 70 (by decide +kernel)), tyX9_ok, nmX9, rfl, fun h => Or.inr ⟨rfl, h, rfl⟩⟩
  · cases h
    exact ⟨RX9, TX9, 12, tyX9, rfl, by decide, hb_inX9, Or.inl (hb_w3 71 (by decide +kernel)), tyX9_ok, nmX9, rfl, fun h => Or.inr ⟨rfl, h, rfl⟩⟩
  · cases h
    exact ⟨RX9, TX9, 12, tyX9, rfl, by decide, hb_inX9, Or.inl (hb_w3 72 (by decide +kernel)), tyX9_ok, nmX9, rfl, fun h => Or.inr ⟨rfl, h, rfl⟩⟩
  · cases h
    exact ⟨RX9, TX9, 12, tyX9, rfl, by decide, hb_inX9, Or.inl (hb_w3 74 (by decide +kernel)), tyX9_ok, nmX9, rfl, fun h => Or.inr ⟨rfl, h, rfl⟩⟩
  · cases h
    exact ⟨RX9, TX9, 12, tyX9, rfl, by decide, hb_inX9, Or.inl (hb_w3 75 (by decide +kernel)), tyX9_ok, nmX9, rfl, fun h => Or.inr ⟨rfl, h, rfl⟩⟩
  · cases h
    exact ⟨RX9, TX9, 12, tyX9, rfl, by decide, hb_inX9, Or.inl (hb_w3 66 (by decide +kernel)), tyX9_ok, nmX9, rfl, fun h => Or.inr ⟨rfl, h, rfl⟩⟩
  · cases h
    exact ⟨RX9, TX9, 12, tyX9, rfl, by decide, hb_inX9, Or.inl (hb_w3 69 (by decide +kernel)), tyX9_ok, nmX9, rfl, fun _ => Or.inl rfl⟩
  · cases h
    exact ⟨RX9, TX9, 12, tyX9, rfl, by decide, hb_inX9, Or.inl (hb_w3 73 (by decide +kernel)), tyX9_ok, nmX9, rfl, fun _ => Or.inl rfl⟩
  · cases h
    exact ⟨RX11, TX11, 18, tyX11, rfl, by decide, hb_inX11, Or.inl (hb_w2 128 (by decide +kernel)), tyX11_ok, nmX11, rfl, fun h => by cases h⟩
  · cases h
    exact ⟨RX5, TX5, 14, tyX5, rfl, by decide, hb_inX5, Or.inl (hb_w1 130 (by decide +kernel)), tyX5_ok, nmX5, rfl, fun h => by cases h⟩
  · cases h
    exact ⟨RX5, TX5, 14, tyX5, rfl, by decide, hb_inX5, Or.inl (hb_w1 134 (by decide +kernel)), tyX5_ok, nmX5, rfl, fun h => by cases h⟩
  · cases h
    exact ⟨RX5, TX5, 14, tyX5, rfl, by decide, hb_inX5, Or.inl (hb_w1 138 (by decide +kernel)), tyX5_ok, nmX5, rfl, fun h => by cases h⟩
  · cases h
    exact ⟨RX5, TX5, 14, tyX5, rfl, by decide, hb_inX5, Or.inl (hb_w1 142 (by decide +kernel)), tyX5_ok, nmX5, rfl, fun h => by cases h⟩
  · cases h
    exact ⟨RX11, TX11, 18, tyX11, rfl, by decide, hb_inX11, Or.inl (hb_w2 120 (by decide +kernel)), tyX11_ok, nmX11, rfl, fun h => by cases h⟩
  · cases h
    exact ⟨RX5, TX5, 14, tyX5, rfl, by decide, hb_inX5, Or.inl (hb_w1 146 (by decide +kernel)), tyX5_ok, nmX5, rfl, fun h => by cases h⟩
  · cases h
    exact ⟨RX5, TX5, 14, tyX5, rfl, by decide, hb_inX5, Or.inl (hb_w1 150 (by decide +kernel)), tyX5_ok, nmX5, rfl, fun h => by cases h⟩
  · cases h
    exact ⟨RX5, TX5, 14, tyX5, rfl, by decide, hb_inX5, Or.inl (hb_w1 154 (by decide +kernel)), tyX5_ok, nmX5, rfl, fun h => by cases h⟩
  · cases h
    exact ⟨RX9, TX9, 12, tyX9, rfl, by decide, hb_inX9, Or.inl (hb_w3 76 (by decide +kernel)), tyX9_ok, nmX9, rfl, fun _ => Or.inl rfl⟩
  · cases h
    exact ⟨RX9, TX9, 12, tyX9, rfl, by decide, hb_inX9, Or.inl (hb_w3 77 (by decide +kernel)), tyX9_ok, nmX9, rfl, fun _ => Or.inl rfl⟩
  · cases h
    exact ⟨RX5, TX5, 14, tyX5, rfl, by decide, hb_inX5, Or.inl (hb_w1 157 (by decide +kernel)), tyX5_ok, nmX5, rfl, fun h => by cases h⟩
  · cases h
def hb_C9 : ab_CT
  | _ => none
theorem hb_C9_ok : ab_Cd RX9 hb_TB vwCl hb_C9 := by
  intro ix ci fs h
  unfold hb_C9 at h
  split at h
  · cases h
def hb_I9 : Nat → Option Int32
  | 104 => some (1000000)
  | _ => none
theorem hb_I9_ok : ∀ ix v, hb_I9 ix = some v → Cond.constant RX9 ix v ∈ hb_TB := by
  intro ix v h
  unfold hb_I9 at h
  split at h
  · cases h
    exact (hb_w6 219 (by decide +kernel))
  · cases h
def hb_L9 : Nat → Option Int64
  | 41 => some (2147483647)
  | 43 => some (-2147483648)
  | 92 => some (-1)
  | 115 => some (3)
  | _ => none
theorem hb_L9_ok : ∀ ix v, hb_L9 ix = some v → Cond.constantLong RX9 ix v ∈ hb_TB := by
  intro ix v h
  unfold hb_L9 at h
  split at h
  · cases h
    exact (hb_w3 64 (by decide +kernel))
  · cases h
    exact (hb_w3 65 (by decide +kernel))
  · cases h
    exact (hb_w6 209 (by decide +kernel))
  · cases h
    exact (hb_w6 232 (by decide +kernel))
  · cases h
def hb_T9 : Nat → Option (Nat × Nat × Nat × Nat)
  | 5 => some (4, 0, 0, 0)
  | 66 => some (0, 2307, 4, 10)
  | 86 => some (0, 513, 2, 3)
  | 105 => some (0, 2310, 1, 10)
  | 109 => some (0, 2312, 1, 10)
  | _ => none
def hb_F10 (isI : Bool) : ab_FT
  | 9 => some (11, 3, (.array .int), isI)
  | 15 => some (11, 4, (.array .int), isI)
  | 18 => some (11, 5, (.array .int), isI)
  | 21 => some (11, 6, (.array .int), isI)
  | 24 => some (11, 7, (.array .int), isI)
  | 27 => some (11, 8, (.array .int), isI)
  | 30 => some (11, 10, (.array .int), isI)
  | 33 => some (11, 0, (.object "DispatchHouse$World"), isI)
  | 37 => some (11, 1, (.object "DispatchHouse$Nearness"), isI)
  | 46 => some (11, 2, (.object "DispatchHouse$Space"), isI)
  | 50 => some (12, 16, .int, true)
  | 56 => some (12, 6, (.array .int), false)
  | 59 => some (12, 14, .int, true)
  | 77 => some (12, 13, (.array .int), false)
  | 80 => some (12, 1, (.object "DispatchHouse$Methods"), false)
  | 88 => some (11, 9, .int, true)
  | 91 => some (6, 2, (.array .int), false)
  | 96 => some (6, 3, (.array .int), false)
  | 117 => some (11, 11, .int, true)
  | 124 => some (12, 7, (.array .int), false)
  | _ => none
theorem hb_F10_ok (isI : Bool) : ab_Fd RX10 isI hb_TB vwCl (hb_F10 isI) := by
  intro ix ci k ty ok h
  unfold hb_F10 at h
  split at h
  · cases h
    exact ⟨RX10, TX10, 12, tyX10, rfl, by decide, hb_inX10, Or.inl (hb_w3 173 (by decide +kernel)), tyX10_ok, nmX10, rfl, fun h => Or.inr ⟨rfl, h, rfl⟩⟩
  · cases h
    exact ⟨RX10, TX10, 12, tyX10, rfl, by decide, hb_inX10, Or.inl (hb_w3 174 (by decide +kernel)), tyX10_ok, nmX10, rfl, fun h => Or.inr ⟨rfl, h, rfl⟩⟩
  · cases h
    exact ⟨RX10, TX10, 12, tyX10, rfl, by decide, hb_inX10, Or.inl (hb_w3 175 (by decide +kernel)), tyX10_ok, nmX10, rfl, fun h => Or.inr ⟨rfl, h, rfl⟩⟩
  · cases h
    exact ⟨RX10, TX10, 12, tyX10, rfl, by decide, hb_inX10, Or.inl (hb_w3 177 (by decide +kernel)), tyX10_ok, nmX10, rfl, fun h => Or.inr ⟨rfl, h, rfl⟩⟩
  · cases h
    exact ⟨RX10, TX10, 12, tyX10, rfl, by decide, hb_inX10, Or.inl (hb_w3 178 (by decide +kernel)), tyX10_ok, nmX10, rfl, fun h => Or.inr ⟨rfl, h, rfl⟩⟩
  · cases h
    exact ⟨RX10, TX10, 12, tyX10, rfl, by decide, hb_inX10, Or.inl (hb_w3 179 (by decide +kernel)), tyX10_ok, nmX10, rfl, fun h => Or.inr ⟨rfl, h, rfl⟩⟩
  · cases h
    exact ⟨RX10, TX10, 12, tyX10, rfl, by decide, hb_inX10, Or.inl (hb_w3 181 (by decide +kernel)), tyX10_ok, nmX10, rfl, fun h => Or.inr ⟨rfl, h, rfl⟩⟩
  · cases h
    exact ⟨RX10, TX10, 12, tyX10, rfl, by decide, hb_inX10, Or.inl (hb_w3 170 (by decide +kernel)), tyX10_ok, nmX10, rfl, fun h => Or.inr ⟨rfl, h, rfl⟩⟩
  · cases h
    exact ⟨RX10, TX10, 12, tyX10, rfl, by decide, hb_inX10, Or.inl (hb_w3 171 (by decide +kernel)), tyX10_ok, nmX10, rfl, fun h => Or.inr ⟨rfl, h, rfl⟩⟩
  · cases h
    exact ⟨RX10, TX10, 12, tyX10, rfl, by decide, hb_inX10, Or.inl (hb_w3 172 (by decide +kernel)), tyX10_ok, nmX10, rfl, fun h => Or.inr ⟨rfl, h, rfl⟩⟩
  · cases h
    exact ⟨RX11, TX11, 18, tyX11, rfl, by decide, hb_inX11, Or.inl (hb_w2 175 (by decide +kernel)), tyX11_ok, nmX11, rfl, fun _ => Or.inl rfl⟩
  · cases h
    exact ⟨RX11, TX11, 18, tyX11, rfl, by decide, hb_inX11, Or.inl (hb_w2 144 (by decide +kernel)), tyX11_ok, nmX11, rfl, fun h => by cases h⟩
  · cases h
    exact ⟨RX11, TX11, 18, tyX11, rfl, by decide, hb_inX11, Or.inl (hb_w2 169 (by decide +kernel)), tyX11_ok, nmX11, rfl, fun _ => Or.inl rfl⟩
  · cases h
    exact ⟨RX11, TX11, 18, tyX11, rfl, by decide, hb_inX11, Or.inl (hb_w2 167 (by decide +kernel)), tyX11_ok, nmX11, rfl, fun h => by cases h⟩
  · cases h
    exact ⟨RX11, TX11, 18, tyX11, rfl, by decide, hb_inX11, Or.inl (hb_w2 129 (by decide +kernel)), tyX11_ok, nmX11, rfl, fun h => by cases h⟩
  · cases h
    exact ⟨RX10, TX10, 12, tyX10, rfl, by decide, hb_inX10, Or.inl (hb_w3 180 (by decide +kernel)), tyX10_ok, nmX10, rfl, fun _ => Or.inl rfl⟩
  · cases h
    exact ⟨RX5, TX5, 14, tyX5, rfl, by decide, hb_inX5, Or.inl (hb_w1 114 (by decide +kernel)), tyX5_ok, nmX5, rfl, fun h => by cases h⟩
  · cases h
    exact ⟨RX5, TX5, 14, tyX5, rfl, by decide, hb_inX5, Or.inl (hb_w1 119 (by decide +kernel)), tyX5_ok, nmX5, rfl, fun h => by cases h⟩
  · cases h
    exact ⟨RX10, TX10, 12, tyX10, rfl, by decide, hb_inX10, Or.inl (hb_w3 182 (by decide +kernel)), tyX10_ok, nmX10, rfl, fun _ => Or.inl rfl⟩
  · cases h
    exact ⟨RX11, TX11, 18, tyX11, rfl, by decide, hb_inX11, Or.inl (hb_w2 152 (by decide +kernel)), tyX11_ok, nmX11, rfl, fun h => by cases h⟩
  · cases h
def hb_C10 : ab_CT
  | 41 => some (10, [.null, .null, .null, .int 0, .null, .null, .null, .int 0, .null, .null, .int 0, .long 0])
  | _ => none
theorem hb_C10_ok : ab_Cd RX10 hb_TB vwCl hb_C10 := by
  intro ix ci fs h
  unfold hb_C10 at h
  split at h
  · cases h
    exact ⟨RX9, TX9, 12, tyX9, rfl, hb_inX9, tyX9_ok, (hb_w3 168 (by decide +kernel)), (hb_w3 59 (by decide +kernel)), (hb_w1 15 (by decide +kernel)), by decide +kernel, rfl, fun _ => rfl⟩
  · cases h
def hb_I10 : Nat → Option Int32
  | 112 => some (1000000)
  | _ => none
theorem hb_I10_ok : ∀ ix v, hb_I10 ix = some v → Cond.constant RX10 ix v ∈ hb_TB := by
  intro ix v h
  unfold hb_I10 at h
  split at h
  · cases h
    exact (hb_w7 105 (by decide +kernel))
  · cases h
def hb_L10 : Nat → Option Int64
  | _ => none
theorem hb_L10_ok : ∀ ix v, hb_L10 ix = some v → Cond.constantLong RX10 ix v ∈ hb_TB := by
  intro ix v h
  unfold hb_L10 at h
  split at h
  · cases h
def hb_T10 : Nat → Option (Nat × Nat × Nat × Nat)
  | 3 => some (4, 0, 0, 0)
  | 43 => some (2, 2304, 1, 0)
  | 62 => some (0, 2562, 2, 11)
  | 66 => some (0, 2564, 1, 11)
  | 70 => some (0, 2565, 1, 11)
  | 73 => some (0, 2563, 1, 11)
  | 84 => some (0, 2828, 3, 12)
  | 99 => some (0, 1284, 1, 6)
  | 102 => some (0, 2305, 0, 10)
  | 105 => some (0, 2306, 2, 10)
  | 109 => some (0, 2308, 0, 10)
  | 113 => some (0, 2309, 0, 10)
  | 120 => some (0, 2311, 2, 10)
  | 127 => some (0, 2566, 0, 11)
  | 130 => some (0, 1538, 3, 7)
  | _ => none
def hb_F11 (isI : Bool) : ab_FT
  | 12 => some (12, 0, (.object "DispatchHouse$Kinds"), isI)
  | 21 => some (12, 1, (.object "DispatchHouse$Methods"), isI)
  | 28 => some (12, 2, (.object "DispatchHouse$Code"), isI)
  | 32 => some (12, 3, (.array .int), isI)
  | 36 => some (12, 4, (.array .long), isI)
  | 40 => some (12, 5, (.array .long), isI)
  | 43 => some (12, 6, (.array .int), isI)
  | 46 => some (12, 7, (.array .int), isI)
  | 49 => some (12, 8, (.array .int), isI)
  | 52 => some (12, 9, (.array .long), isI)
  | 55 => some (12, 10, (.array .long), isI)
  | 58 => some (12, 11, (.array .long), isI)
  | 61 => some (12, 12, (.array .long), isI)
  | 64 => some (12, 13, (.array .int), isI)
  | 67 => some (12, 16, .int, true)
  | 71 => some (12, 17, (.array .int), isI)
  | 115 => some (6, 0, .int, true)
  | 118 => some (2, 3, .int, true)
  | 127 => some (12, 14, .int, true)
  | 130 => some (3, 0, (.array .boolean), false)
  | 146 => some (6, 1, (.array .int), false)
  | 149 => some (6, 5, (.array .int), false)
  | _ => none
theorem hb_F11_ok (isI : Bool) : ab_Fd RX11 isI hb_TB vwCl (hb_F11 isI) := by
  intro ix ci k ty ok h
  unfold hb_F11 at h
  split at h
  · cases h
    exact ⟨RX11, TX11, 18, tyX11, rfl, by decide, hb_inX11, Or.inl (hb_w2 119 (by decide +kernel)), tyX11_ok, nmX11, rfl, fun h => Or.inr ⟨rfl, h, rfl⟩⟩
  · cases h
    exact ⟨RX11, TX11, 18, tyX11, rfl, by decide, hb_inX11, Or.inl (hb_w2 126 (by decide +kernel)), tyX11_ok, nmX11, rfl, fun h => Or.inr ⟨rfl, h, rfl⟩⟩
  · cases h
    exact ⟨RX11, TX11, 18, tyX11, rfl, by decide, hb_inX11, Or.inl (hb_w2 134 (by decide +kernel)), tyX11_ok, nmX11, rfl, fun h => Or.inr ⟨rfl, h, rfl⟩⟩
  · cases h
    exact ⟨RX11, TX11, 18, tyX11, rfl, by decide, hb_inX11, Or.inl (hb_w2 137 (by decide +kernel)), tyX11_ok, nmX11, rfl, fun h => Or.inr ⟨rfl, h, rfl⟩⟩
  · cases h
    exact ⟨RX11, TX11, 18, tyX11, rfl, by decide, hb_inX11, Or.inl (hb_w2 140 (by decide +kernel)), tyX11_ok, nmX11, rfl, fun h => Or.inr ⟨rfl, h, rfl⟩⟩
  · cases h
    exact ⟨RX11, TX11, 18, tyX11, rfl, by decide, hb_inX11, Or.inl (hb_w2 141 (by decide +kernel)), tyX11_ok, nmX11, rfl, fun h => Or.inr ⟨rfl, h, rfl⟩⟩
  · cases h
    exact ⟨RX11, TX11, 18, tyX11, rfl, by decide, hb_inX11, Or.inl (hb_w2 142 (by decide +kernel)), tyX11_ok, nmX11, rfl, fun h => Or.inr ⟨rfl, h, rfl⟩⟩
  · cases h
    exact ⟨RX11, TX11, 18, tyX11, rfl, by decide, hb_inX11, Or.inl (hb_w2 150 (by decide +kernel)), tyX11_ok, nmX11, rfl, fun h => Or.inr ⟨rfl, h, rfl⟩⟩
  · cases h
    exact ⟨RX11, TX11, 18, tyX11, rfl, by decide, hb_inX11, Or.inl (hb_w2 155 (by decide +kernel)), tyX11_ok, nmX11, rfl, fun h => Or.inr ⟨rfl, h, rfl⟩⟩
  · cases h
    exact ⟨RX11, TX11, 18, tyX11, rfl, by decide, hb_inX11, Or.inl (hb_w2 158 (by decide +kernel)), tyX11_ok, nmX11, rfl, fun h => Or.inr ⟨rfl, h, rfl⟩⟩
  · cases h
    exact ⟨RX11, TX11, 18, tyX11, rfl, by decide, hb_inX11, Or.inl (hb_w2 160 (by decide +kernel)), tyX11_ok, nmX11, rfl, fun h => Or.inr ⟨rfl, h, rfl⟩⟩
  · cases h
    exact ⟨RX11, TX11, 18, tyX11, rfl, by decide, hb_inX11, Or.inl (hb_w2 162 (by decide +kernel)), tyX11_ok, nmX11, rfl, fun h => Or.inr ⟨rfl, h, rfl⟩⟩
  · cases h
    exact ⟨RX11, TX11, 18, tyX11, rfl, by decide, hb_inX11, Or.inl (hb_w2 164 (by decide +kernel)), tyX11_ok, nmX11, rfl, fun h => Or.inr ⟨rfl, h, rfl⟩⟩
  · cases h
    exact ⟨RX11, TX11, 18, tyX11, rfl, by decide, hb_inX11, Or.inl (hb_w2 166 (by decide +kernel)), tyX11_ok, nmX11, rfl, fun h => Or.inr ⟨rfl, h, rfl⟩⟩
  · cases h
    exact ⟨RX11, TX11, 18, tyX11, rfl, by decide, hb_inX11, Or.inl (hb_w2 174 (by decide +kernel)), tyX11_ok, nmX11, rfl, fun _ => Or.inl rfl⟩
  · cases h
    exact ⟨RX11, TX11, 18, tyX11, rfl, by decide, hb_inX11, Or.inl (hb_w2 179 (by decide +kernel)), tyX11_ok, nmX11, rfl, fun h => Or.inr ⟨rfl, h, rfl⟩⟩
  · cases h
    exact ⟨RX5, TX5, 14, tyX5, rfl, by decide, hb_inX5, Or.inl (hb_w1 105 (by decide +kernel)), tyX5_ok, nmX5, rfl, fun _ => Or.inl rfl⟩
  · cases h
    exact ⟨RX1, TX1, 5, tyX1, rfl, by decide, hb_inX1, Or.inl (hb_w1 205 (by decide +kernel)), tyX1_ok, nmX1, rfl, fun _ => Or.inl rfl⟩
  · cases h
    exact ⟨RX11, TX11, 18, tyX11, rfl, by decide, hb_inX11, Or.inl (hb_w2 171 (by decide +kernel)), tyX11_ok, nmX11, rfl, fun _ => Or.inl rfl⟩
  · cases h
    exact ⟨RX2, TX2, 8, tyX2, rfl, by decide, hb_inX2, Or.inl (hb_w1 67 (by decide +kernel)), tyX2_ok, nmX2, rfl, fun h => by cases h⟩
  · cases h
    exact ⟨RX5, TX5, 14, tyX5, rfl, by decide, hb_inX5, Or.inl (hb_w1 111 (by decide +kernel)), tyX5_ok, nmX5, rfl, fun h => by cases h⟩
  · cases h
    exact ⟨RX5, TX5, 14, tyX5, rfl, by decide, hb_inX5, Or.inl (hb_w1 127 (by decide +kernel)), tyX5_ok, nmX5, rfl, fun h => by cases h⟩
  · cases h
def hb_C11 : ab_CT
  | 9 => some (3, [.null, .null, .null, .null, .int 0, .null, .null, .null])
  | 18 => some (6, [.int 0, .null, .null, .null, .null, .null, .null, .null, .null, .null, .null, .null, .null, .null])
  | 25 => some (2, [.null, .null, .null, .int 0, .int 0])
  | _ => none
theorem hb_C11_ok : ab_Cd RX11 hb_TB vwCl hb_C11 := by
  intro ix ci fs h
  unfold hb_C11 at h
  split at h
  · cases h
    exact ⟨RX2, TX2, 8, tyX2, rfl, hb_inX2, tyX2_ok, (hb_w1 60 (by decide +kernel)), (hb_w1 61 (by decide +kernel)), (hb_w1 3 (by decide +kernel)), by decide +kernel, rfl, fun _ => rfl⟩
  · cases h
    exact ⟨RX5, TX5, 14, tyX5, rfl, hb_inX5, tyX5_ok, (hb_w1 97 (by decide +kernel)), (hb_w1 98 (by decide +kernel)), (hb_w1 4 (by decide +kernel)), by decide +kernel, rfl, fun _ => rfl⟩
  · cases h
    exact ⟨RX1, TX1, 5, tyX1, rfl, hb_inX1, tyX1_ok, (hb_w1 190 (by decide +kernel)), (hb_w1 191 (by decide +kernel)), (hb_w1 5 (by decide +kernel)), by decide +kernel, rfl, fun _ => rfl⟩
  · cases h
def hb_I11 : Nat → Option Int32
  | _ => none
theorem hb_I11_ok : ∀ ix v, hb_I11 ix = some v → Cond.constant RX11 ix v ∈ hb_TB := by
  intro ix v h
  unfold hb_I11 at h
  split at h
  · cases h
def hb_L11 : Nat → Option Int64
  | _ => none
theorem hb_L11_ok : ∀ ix v, hb_L11 ix = some v → Cond.constantLong RX11 ix v ∈ hb_TB := by
  intro ix v h
  unfold hb_L11 at h
  split at h
  · cases h
def hb_T11 : Nat → Option (Nat × Nat × Nat × Nat)
  | 3 => some (4, 0, 0, 0)
  | 11 => some (3, 512, 0, 0)
  | 20 => some (3, 1280, 0, 0)
  | 27 => some (3, 256, 0, 0)
  | 76 => some (1, 2056, 1, 0)
  | 82 => some (0, 2821, 3, 12)
  | 90 => some (0, 518, 2, 3)
  | 94 => some (0, 517, 1, 3)
  | 98 => some (0, 2825, 0, 12)
  | 104 => some (0, 2818, 3, 12)
  | 111 => some (0, 2820, 1, 12)
  | 121 => some (5, 0, 0, 0)
  | 134 => some (1, 11264, 2, 0)
  | 140 => some (0, 1281, 1, 6)
  | 143 => some (0, 2826, 1, 12)
  | 152 => some (0, 513, 2, 3)
  | 156 => some (1, 8961, 1, 0)
  | 162 => some (1, 8960, 1, 0)
  | _ => none
def hb_F12 (isI : Bool) : ab_FT
  | 10 => some (13, 0, (.object "DispatchHouse$World"), isI)
  | 21 => some (13, 1, (.object "DispatchHouse$Reader"), isI)
  | 28 => some (13, 2, (.object "DispatchHouse$Nearness"), isI)
  | 35 => some (13, 3, (.object "DispatchHouse$Lists"), isI)
  | 44 => some (13, 4, (.object "DispatchHouse$Whole"), isI)
  | 58 => some (13, 5, (.object "DispatchHouse$Machine"), isI)
  | 62 => some (13, 6, (.array .int), isI)
  | 66 => some (13, 7, (.array .int), isI)
  | 69 => some (13, 8, (.array .byte), true)
  | 73 => some (13, 12, .int, true)
  | 77 => some (13, 9, .int, true)
  | 109 => some (13, 13, .boolean, true)
  | 119 => some (12, 1, (.object "DispatchHouse$Methods"), false)
  | 123 => some (6, 0, .int, true)
  | 132 => some (6, 1, (.array .int), false)
  | 138 => some (13, 11, .int, true)
  | 141 => some (12, 15, .int, true)
  | 144 => some (12, 16, .int, true)
  | 148 => some (12, 3, (.array .int), false)
  | 151 => some (8, 2, .int, true)
  | 154 => some (13, 10, .int, true)
  | 160 => some (12, 0, (.object "DispatchHouse$Kinds"), false)
  | 170 => some (3, 2, (.array .int), false)
  | 177 => some (12, 6, (.array .int), false)
  | 207 => some (11, 5, (.array .int), false)
  | 217 => some (5, 11, .int, true)
  | 220 => some (5, 12, .boolean, true)
  | 223 => some (5, 13, .long, true)
  | 231 => some (5, 14, .int, true)
  | 234 => some (5, 16, .int, true)
  | 237 => some (5, 18, .int, true)
  | 240 => some (5, 1, (.object "DispatchHouse$Chooser"), false)
  | 244 => some (1, 4, .int, true)
  | 247 => some (5, 15, (.array .int), false)
  | 250 => some (5, 17, (.array .int), false)
  | _ => none
theorem hb_F12_ok (isI : Bool) : ab_Fd RX12 isI hb_TB vwCl (hb_F12 isI) := by
  intro ix ci k ty ok h
  unfold hb_F12 at h
  split at h
  · cases h
    exact ⟨RX12, TX12, 14, tyX12, rfl, by decide, hb_inX12, Or.inl (hb_w4 102 (by decide +kernel)), tyX12_ok, nmX12, rfl, fun h => Or.inr ⟨rfl, h, rfl⟩⟩
  · cases h
    exact ⟨RX12, TX12, 14, tyX12, rfl, by decide, hb_inX12, Or.inl (hb_w4 103 (by decide +kernel)), tyX12_ok, nmX12, rfl, fun h => Or.inr ⟨rfl, h, rfl⟩⟩
  · cases h
    exact ⟨RX12, TX12, 14, tyX12, rfl, by decide, hb_inX12, Or.inl (hb_w4 104 (by decide +kernel)), tyX12_ok, nmX12, rfl, fun h => Or.inr ⟨rfl, h, rfl⟩⟩
  · cases h
    exact ⟨RX12, TX12, 14, tyX12, rfl, by decide, hb_inX12, Or.inl (hb_w4 105 (by decide +kernel)), tyX12_ok, nmX12, rfl, fun h => Or.inr ⟨rfl, h, rfl⟩⟩
  · cases h
    exact ⟨RX12, TX12, 14, tyX12, rfl, by decide, hb_inX12, Or.inl (hb_w4 106 (by decide +kernel)), tyX12_ok, nmX12, rfl, fun h => Or.inr ⟨rfl, h, rfl⟩⟩
  · cases h
    exact ⟨RX12, TX12, 14, tyX12, rfl, by decide, hb_inX12, Or.inl (hb_w4 107 (by decide +kernel)), tyX12_ok, nmX12, rfl, fun h => Or.inr ⟨rfl, h, rfl⟩⟩
  · cases h
    exact ⟨RX12, TX12, 14, tyX12, rfl, by decide, hb_inX12, Or.inl (hb_w4 108 (by decide +kernel)), tyX12_ok, nmX12, rfl, fun h => Or.inr ⟨rfl, h, rfl⟩⟩
  · cases h
    exact ⟨RX12, TX12, 14, tyX12, rfl, by decide, hb_inX12, Or.inl (hb_w4 109 (by decide +kernel)), tyX12_ok, nmX12, rfl, fun h => Or.inr ⟨rfl, h, rfl⟩⟩
  · cases h
    exact ⟨RX12, TX12, 14, tyX12, rfl, by decide, hb_inX12, Or.inl (hb_w4 110 (by decide +kernel)), tyX12_ok, nmX12, rfl, fun _ => Or.inl rfl⟩
  · cases h
    exact ⟨RX12, TX12, 14, tyX12, rfl, by decide, hb_inX12, Or.inl (hb_w4 114 (by decide +kernel)), tyX12_ok, nmX12, rfl, fun _ => Or.inl rfl⟩
  · cases h
    exact ⟨RX12, TX12, 14, tyX12, rfl, by decide, hb_inX12, Or.inl (hb_w4 111 (by decide +kernel)), tyX12_ok, nmX12, rfl, fun _ => Or.inl rfl⟩
  · cases h
    exact ⟨RX12, TX12, 14, tyX12, rfl, by decide, hb_inX12, Or.inl (hb_w4 115 (by decide +kernel)), tyX12_ok, nmX12, rfl, fun _ => Or.inl rfl⟩
  · cases h
    exact ⟨RX11, TX11, 18, tyX11, rfl, by decide, hb_inX11, Or.inl (hb_w2 131 (by decide +kernel)), tyX11_ok, nmX11, rfl, fun h => by cases h⟩
  · cases h
    exact ⟨RX5, TX5, 14, tyX5, rfl, by decide, hb_inX5, Or.inl (hb_w1 106 (by decide +kernel)), tyX5_ok, nmX5, rfl, fun _ => Or.inl rfl⟩
  · cases h
    exact ⟨RX5, TX5, 14, tyX5, rfl, by decide, hb_inX5, Or.inl (hb_w1 110 (by decide +kernel)), tyX5_ok, nmX5, rfl, fun h => by cases h⟩
  · cases h
    exact ⟨RX12, TX12, 14, tyX12, rfl, by decide, hb_inX12, Or.inl (hb_w4 113 (by decide +kernel)), tyX12_ok, nmX12, rfl, fun _ => Or.inl rfl⟩
  · cases h
    exact ⟨RX11, TX11, 18, tyX11, rfl, by decide, hb_inX11, Or.inl (hb_w2 173 (by decide +kernel)), tyX11_ok, nmX11, rfl, fun _ => Or.inl rfl⟩
  · cases h
    exact ⟨RX11, TX11, 18, tyX11, rfl, by decide, hb_inX11, Or.inl (hb_w2 178 (by decide +kernel)), tyX11_ok, nmX11, rfl, fun _ => Or.inl rfl⟩
  · cases h
    exact ⟨RX11, TX11, 18, tyX11, rfl, by decide, hb_inX11, Or.inl (hb_w2 139 (by decide +kernel)), tyX11_ok, nmX11, rfl, fun h => by cases h⟩
  · cases h
    exact ⟨RX7, TX7, 13, tyX7, rfl, by decide, hb_inX7, Or.inl (hb_w3 14 (by decide +kernel)), tyX7_ok, nmX7, rfl, fun _ => Or.inl rfl⟩
  · cases h
    exact ⟨RX12, TX12, 14, tyX12, rfl, by decide, hb_inX12, Or.inl (hb_w4 112 (by decide +kernel)), tyX12_ok, nmX12, rfl, fun _ => Or.inl rfl⟩
  · cases h
    exact ⟨RX11, TX11, 18, tyX11, rfl, by decide, hb_inX11, Or.inl (hb_w2 123 (by decide +kernel)), tyX11_ok, nmX11, rfl, fun h => by cases h⟩
  · cases h
    exact ⟨RX2, TX2, 8, tyX2, rfl, by decide, hb_inX2, Or.inl (hb_w1 71 (by decide +kernel)), tyX2_ok, nmX2, rfl, fun h => by cases h⟩
  · cases h
    exact ⟨RX11, TX11, 18, tyX11, rfl, by decide, hb_inX11, Or.inl (hb_w2 148 (by decide +kernel)), tyX11_ok, nmX11, rfl, fun h => by cases h⟩
  · cases h
    exact ⟨RX10, TX10, 12, tyX10, rfl, by decide, hb_inX10, Or.inl (hb_w3 176 (by decide +kernel)), tyX10_ok, nmX10, rfl, fun h => by cases h⟩
  · cases h
    exact ⟨RX4, TX4, 19, tyX4, rfl, by decide, hb_inX4, Or.inl (hb_w4 48 (by decide +kernel)), tyX4_ok, nmX4, rfl, fun _ => Or.inl rfl⟩
  · cases h
    exact ⟨RX4, TX4, 19, tyX4, rfl, by decide, hb_inX4, Or.inl (hb_w4 50 (by decide +kernel)), tyX4_ok, nmX4, rfl, fun _ => Or.inl rfl⟩
  · cases h
    exact ⟨RX4, TX4, 19, tyX4, rfl, by decide, hb_inX4, Or.inl (hb_w4 52 (by decide +kernel)), tyX4_ok, nmX4, rfl, fun _ => Or.inl rfl⟩
  · cases h
    exact ⟨RX4, TX4, 19, tyX4, rfl, by decide, hb_inX4, Or.inl (hb_w4 54 (by decide +kernel)), tyX4_ok, nmX4, rfl, fun _ => Or.inl rfl⟩
  · cases h
    exact ⟨RX4, TX4, 19, tyX4, rfl, by decide, hb_inX4, Or.inl (hb_w4 58 (by decide +kernel)), tyX4_ok, nmX4, rfl, fun _ => Or.inl rfl⟩
  · cases h
    exact ⟨RX4, TX4, 19, tyX4, rfl, by decide, hb_inX4, Or.inl (hb_w4 62 (by decide +kernel)), tyX4_ok, nmX4, rfl, fun _ => Or.inl rfl⟩
  · cases h
    exact ⟨RX4, TX4, 19, tyX4, rfl, by decide, hb_inX4, Or.inl (hb_w4 37 (by decide +kernel)), tyX4_ok, nmX4, rfl, fun h => by cases h⟩
  · cases h
    exact ⟨RX0, TX0, 17, tyX0, rfl, by decide, hb_inX0, Or.inl (hb_w3 223 (by decide +kernel)), tyX0_ok, nmX0, rfl, fun _ => Or.inl rfl⟩
  · cases h
    exact ⟨RX4, TX4, 19, tyX4, rfl, by decide, hb_inX4, Or.inl (hb_w4 56 (by decide +kernel)), tyX4_ok, nmX4, rfl, fun h => by cases h⟩
  · cases h
    exact ⟨RX4, TX4, 19, tyX4, rfl, by decide, hb_inX4, Or.inl (hb_w4 60 (by decide +kernel)), tyX4_ok, nmX4, rfl, fun h => by cases h⟩
  · cases h
def hb_C12 : ab_CT
  | 7 => some (12, [.null, .null, .null, .null, .null, .null, .null, .null, .null, .null, .null, .null, .null, .null, .int 0, .int 0, .int 0, .null])
  | 16 => some (8, [.null, .null, .int 0, .int 0, .int 0, .int 0, .int 0, .int 0, .int 0, .int 0, .int 0, .int 0, .long 0])
  | 25 => some (7, [.null, .null, .int 0, .null])
  | 32 => some (4, [.null, .null, .null, .null, .null, .null, .null, .null, .null, .null, .null, .int 0, .int 0])
  | 39 => some (11, [.null, .null, .null, .null, .null, .null, .null, .null, .null, .int 0, .null, .int 0])
  | 48 => some (5, [.null, .null, .null, .null, .null, .int 0, .int 0, .int 0, .int 0, .int 0, .long 0, .int 0, .int 0, .long 0, .int 0, .null, .int 0, .null, .int 0])
  | 50 => some (1, [.null, .null, .null, .int 0, .int 0, .null, .null, .null, .null, .null, .null, .null, .int 0, .long 0, .long 0, .null, .null])
  | _ => none
theorem hb_C12_ok : ab_Cd RX12 hb_TB vwCl hb_C12 := by
  intro ix ci fs h
  unfold hb_C12 at h
  split at h
  · cases h
    exact ⟨RX11, TX11, 18, tyX11, rfl, hb_inX11, tyX11_ok, (hb_w1 54 (by decide +kernel)), (hb_w1 55 (by decide +kernel)), (hb_w1 2 (by decide +kernel)), by decide +kernel, rfl, fun _ => rfl⟩
  · cases h
    exact ⟨RX7, TX7, 13, tyX7, rfl, hb_inX7, tyX7_ok, (hb_w2 218 (by decide +kernel)), (hb_w2 219 (by decide +kernel)), (hb_w1 13 (by decide +kernel)), by decide +kernel, rfl, fun _ => rfl⟩
  · cases h
    exact ⟨RX6, TX6, 4, tyX6, rfl, hb_inX6, tyX6_ok, (hb_w3 52 (by decide +kernel)), (hb_w3 53 (by decide +kernel)), (hb_w1 14 (by decide +kernel)), by decide +kernel, rfl, fun _ => rfl⟩
  · cases h
    exact ⟨RX3, TX3, 13, tyX3, rfl, hb_inX3, tyX3_ok, (hb_w3 116 (by decide +kernel)), (hb_w3 117 (by decide +kernel)), (hb_w1 16 (by decide +kernel)), by decide +kernel, rfl, fun _ => rfl⟩
  · cases h
    exact ⟨RX10, TX10, 12, tyX10, rfl, hb_inX10, tyX10_ok, (hb_w3 162 (by decide +kernel)), (hb_w3 163 (by decide +kernel)), (hb_w1 17 (by decide +kernel)), by decide +kernel, rfl, fun _ => rfl⟩
  · cases h
    exact ⟨RX4, TX4, 19, tyX4, rfl, hb_inX4, tyX4_ok, (hb_w3 208 (by decide +kernel)), (hb_w3 209 (by decide +kernel)), (hb_w1 18 (by decide +kernel)), by decide +kernel, rfl, fun _ => rfl⟩
  · cases h
    exact ⟨RX0, TX0, 17, tyX0, rfl, hb_inX0, tyX0_ok, (hb_w3 210 (by decide +kernel)), (hb_w3 211 (by decide +kernel)), (hb_w1 19 (by decide +kernel)), by decide +kernel, rfl, fun _ => rfl⟩
  · cases h
def hb_I12 : Nat → Option Int32
  | 147 => some (100000)
  | _ => none
theorem hb_I12_ok : ∀ ix v, hb_I12 ix = some v → Cond.constant RX12 ix v ∈ hb_TB := by
  intro ix v h
  unfold hb_I12 at h
  split at h
  · cases h
    exact (hb_w6 135 (by decide +kernel))
  · cases h
def hb_L12 : Nat → Option Int64
  | _ => none
theorem hb_L12_ok : ∀ ix v, hb_L12 ix = some v → Cond.constantLong RX12 ix v ∈ hb_TB := by
  intro ix v h
  unfold hb_L12 at h
  split at h
  · cases h
def hb_T12 : Nat → Option (Nat × Nat × Nat × Nat)
  | 1 => some (4, 0, 0, 0)
  | 9 => some (2, 2816, 0, 0)
  | 18 => some (2, 1792, 1, 0)
  | 27 => some (2, 1536, 1, 0)
  | 34 => some (2, 768, 1, 0)
  | 41 => some (2, 2560, 2, 0)
  | 52 => some (2, 0, 3, 0)
  | 55 => some (2, 1024, 2, 0)
  | 83 => some (8, 0, 0, 0)
  | 89 => some (1, 11268, 2, 0)
  | 95 => some (0, 3074, 1, 13)
  | 102 => some (0, 1793, 2, 8)
  | 106 => some (0, 1794, 2, 8)
  | 113 => some (0, 2822, 0, 12)
  | 116 => some (0, 1537, 0, 7)
  | 128 => some (0, 1281, 1, 6)
  | 135 => some (0, 2825, 0, 12)
  | 157 => some (0, 2817, 1, 12)
  | 164 => some (0, 513, 2, 3)
  | 173 => some (0, 514, 3, 3)
  | 180 => some (0, 2829, 2, 12)
  | 184 => some (0, 1538, 3, 7)
  | 188 => some (0, 2827, 1, 12)
  | 192 => some (0, 769, 1, 4)
  | 195 => some (0, 770, 1, 4)
  | 198 => some (0, 771, 1, 4)
  | 201 => some (0, 772, 1, 4)
  | 204 => some (0, 2561, 1, 11)
  | 213 => some (0, 1027, 2, 5)
  | 227 => some (1, 1025, 1, 0)
  | 253 => some (5, 0, 0, 0)
  | 259 => some (0, 3091, 1, 13)
  | _ => none
def hb_F13 (isI : Bool) : ab_FT
  | 10 => some (14, 0, (.object "DispatchHouseModel$Name"), isI)
  | _ => none
theorem hb_F13_ok (isI : Bool) : ab_Fd RX13 isI hb_TB vwCl (hb_F13 isI) := by
  intro ix ci k ty ok h
  unfold hb_F13 at h
  split at h
  · cases h
    exact ⟨RX13, TX13, 4, tyX13, rfl, by decide, hb_inX13, Or.inl (hb_w8 207 (by decide +kernel)), tyX13_ok, nmX13, rfl, fun h => Or.inr ⟨rfl, h, rfl⟩⟩
  · cases h
def hb_C13 : ab_CT
  | 7 => some (20, [.null, .int 0])
  | _ => none
theorem hb_C13_ok : ab_Cd RX13 hb_TB vwCl hb_C13 := by
  intro ix ci fs h
  unfold hb_C13 at h
  split at h
  · cases h
    exact ⟨RX19, TX19, 2, tyX19, rfl, hb_inX19, tyX19_ok, (hb_w8 205 (by decide +kernel)), (hb_w8 164 (by decide +kernel)), (hb_w1 26 (by decide +kernel)), by decide +kernel, rfl, fun _ => rfl⟩
  · cases h
def hb_I13 : Nat → Option Int32
  | _ => none
theorem hb_I13_ok : ∀ ix v, hb_I13 ix = some v → Cond.constant RX13 ix v ∈ hb_TB := by
  intro ix v h
  unfold hb_I13 at h
  split at h
  · cases h
def hb_L13 : Nat → Option Int64
  | _ => none
theorem hb_L13_ok : ∀ ix v, hb_L13 ix = some v → Cond.constantLong RX13 ix v ∈ hb_TB := by
  intro ix v h
  unfold hb_L13 at h
  split at h
  · cases h
def hb_T13 : Nat → Option (Nat × Nat × Nat × Nat)
  | 1 => some (4, 0, 0, 0)
  | 9 => some (3, 4864, 0, 0)
  | _ => none
def hb_F14 (isI : Bool) : ab_FT
  | 11 => some (15, 1, (.array (.array .int)), isI)
  | 16 => some (15, 2, (.array .int), isI)
  | 20 => some (15, 3, (.array .boolean), isI)
  | _ => none
theorem hb_F14_ok (isI : Bool) : ab_Fd RX14 isI hb_TB vwCl (hb_F14 isI) := by
  intro ix ci k ty ok h
  unfold hb_F14 at h
  split at h
  · cases h
    exact ⟨RX14, TX14, 4, tyX14, rfl, by decide, hb_inX14, Or.inl (hb_w9 80 (by decide +kernel)), tyX14_ok, nmX14, rfl, fun h => Or.inr ⟨rfl, h, rfl⟩⟩
  · cases h
    exact ⟨RX14, TX14, 4, tyX14, rfl, by decide, hb_inX14, Or.inl (hb_w9 82 (by decide +kernel)), tyX14_ok, nmX14, rfl, fun h => Or.inr ⟨rfl, h, rfl⟩⟩
  · cases h
    exact ⟨RX14, TX14, 4, tyX14, rfl, by decide, hb_inX14, Or.inl (hb_w9 84 (by decide +kernel)), tyX14_ok, nmX14, rfl, fun h => Or.inr ⟨rfl, h, rfl⟩⟩
  · cases h
def hb_C14 : ab_CT
  | _ => none
theorem hb_C14_ok : ab_Cd RX14 hb_TB vwCl hb_C14 := by
  intro ix ci fs h
  unfold hb_C14 at h
  split at h
  · cases h
def hb_I14 : Nat → Option Int32
  | _ => none
theorem hb_I14_ok : ∀ ix v, hb_I14 ix = some v → Cond.constant RX14 ix v ∈ hb_TB := by
  intro ix v h
  unfold hb_I14 at h
  split at h
  · cases h
def hb_L14 : Nat → Option Int64
  | _ => none
theorem hb_L14_ok : ∀ ix v, hb_L14 ix = some v → Cond.constantLong RX14 ix v ∈ hb_TB := by
  intro ix v h
  unfold hb_L14 at h
  split at h
  · cases h
def hb_T14 : Nat → Option (Nat × Nat × Nat × Nat)
  | 3 => some (4, 0, 0, 0)
  | _ => none
def hb_F15 (isI : Bool) : ab_FT
  | _ => none
theorem hb_F15_ok (isI : Bool) : ab_Fd RX15 isI hb_TB vwCl (hb_F15 isI) := by
  intro ix ci k ty ok h
  unfold hb_F15 at h
  split at h
  · cases h
def hb_C15 : ab_CT
  | _ => none
theorem hb_C15_ok : ab_Cd RX15 hb_TB vwCl hb_C15 := by
  intro ix ci fs h
  unfold hb_C15 at h
  split at h
  · cases h
def hb_I15 : Nat → Option Int32
  | _ => none
theorem hb_I15_ok : ∀ ix v, hb_I15 ix = some v → Cond.constant RX15 ix v ∈ hb_TB := by
  intro ix v h
  unfold hb_I15 at h
  split at h
  · cases h
def hb_L15 : Nat → Option Int64
  | _ => none
theorem hb_L15_ok : ∀ ix v, hb_L15 ix = some v → Cond.constantLong RX15 ix v ∈ hb_TB := by
  intro ix v h
  unfold hb_L15 at h
  split at h
  · cases h
def hb_T15 : Nat → Option (Nat × Nat × Nat × Nat)
  | 1 => some (2, 15360, 4, 0)
  | _ => none
def hb_F16 (isI : Bool) : ab_FT
  | _ => none
theorem hb_F16_ok (isI : Bool) : ab_Fd RX16 isI hb_TB vwCl (hb_F16 isI) := by
  intro ix ci k ty ok h
  unfold hb_F16 at h
  split at h
  · cases h
def hb_C16 : ab_CT
  | _ => none
theorem hb_C16_ok : ab_Cd RX16 hb_TB vwCl hb_C16 := by
  intro ix ci fs h
  unfold hb_C16 at h
  split at h
  · cases h
def hb_I16 : Nat → Option Int32
  | _ => none
theorem hb_I16_ok : ∀ ix v, hb_I16 ix = some v → Cond.constant RX16 ix v ∈ hb_TB := by
  intro ix v h
  unfold hb_I16 at h
  split at h
  · cases h
def hb_L16 : Nat → Option Int64
  | _ => none
theorem hb_L16_ok : ∀ ix v, hb_L16 ix = some v → Cond.constantLong RX16 ix v ∈ hb_TB := by
  intro ix v h
  unfold hb_L16 at h
  split at h
  · cases h
def hb_T16 : Nat → Option (Nat × Nat × Nat × Nat)
  | 1 => some (2, 16128, 4, 0)
  | _ => none
def hb_F17 (isI : Bool) : ab_FT
  | 12 => some (18, 0, (.object "DispatchHouseModel$Name"), isI)
  | 18 => some (18, 2, (.array .int), isI)
  | 24 => some (18, 4, (.array (.array .int)), isI)
  | 27 => some (18, 5, (.array .int), isI)
  | _ => none
theorem hb_F17_ok (isI : Bool) : ab_Fd RX17 isI hb_TB vwCl (hb_F17 isI) := by
  intro ix ci k ty ok h
  unfold hb_F17 at h
  split at h
  · cases h
    exact ⟨RX17, TX17, 6, tyX17, rfl, by decide, hb_inX17, Or.inl (hb_w8 177 (by decide +kernel)), tyX17_ok, nmX17, rfl, fun h => Or.inr ⟨rfl, h, rfl⟩⟩
  · cases h
    exact ⟨RX17, TX17, 6, tyX17, rfl, by decide, hb_inX17, Or.inl (hb_w8 180 (by decide +kernel)), tyX17_ok, nmX17, rfl, fun h => Or.inr ⟨rfl, h, rfl⟩⟩
  · cases h
    exact ⟨RX17, TX17, 6, tyX17, rfl, by decide, hb_inX17, Or.inl (hb_w8 183 (by decide +kernel)), tyX17_ok, nmX17, rfl, fun h => Or.inr ⟨rfl, h, rfl⟩⟩
  · cases h
    exact ⟨RX17, TX17, 6, tyX17, rfl, by decide, hb_inX17, Or.inl (hb_w8 185 (by decide +kernel)), tyX17_ok, nmX17, rfl, fun h => Or.inr ⟨rfl, h, rfl⟩⟩
  · cases h
def hb_C17 : ab_CT
  | 9 => some (20, [.null, .int 0])
  | _ => none
theorem hb_C17_ok : ab_Cd RX17 hb_TB vwCl hb_C17 := by
  intro ix ci fs h
  unfold hb_C17 at h
  split at h
  · cases h
    exact ⟨RX19, TX19, 2, tyX19, rfl, hb_inX19, tyX19_ok, (hb_w8 163 (by decide +kernel)), (hb_w8 164 (by decide +kernel)), (hb_w1 26 (by decide +kernel)), by decide +kernel, rfl, fun _ => rfl⟩
  · cases h
def hb_I17 : Nat → Option Int32
  | _ => none
theorem hb_I17_ok : ∀ ix v, hb_I17 ix = some v → Cond.constant RX17 ix v ∈ hb_TB := by
  intro ix v h
  unfold hb_I17 at h
  split at h
  · cases h
def hb_L17 : Nat → Option Int64
  | _ => none
theorem hb_L17_ok : ∀ ix v, hb_L17 ix = some v → Cond.constantLong RX17 ix v ∈ hb_TB := by
  intro ix v h
  unfold hb_L17 at h
  split at h
  · cases h
def hb_T17 : Nat → Option (Nat × Nat × Nat × Nat)
  | 3 => some (4, 0, 0, 0)
  | 11 => some (3, 4864, 0, 0)
  | _ => none
def hb_F18 (isI : Bool) : ab_FT
  | 7 => some (19, 5, (.array .int), isI)
  | 13 => some (19, 6, (.array .int), isI)
  | 16 => some (19, 7, (.array .boolean), isI)
  | 20 => some (19, 8, (.object "DispatchHouseModel$Node"), true)
  | _ => none
theorem hb_F18_ok (isI : Bool) : ab_Fd RX18 isI hb_TB vwCl (hb_F18 isI) := by
  intro ix ci k ty ok h
  unfold hb_F18 at h
  split at h
  · cases h
    exact ⟨RX18, TX18, 11, tyX18, rfl, by decide, hb_inX18, Or.inl (hb_w8 231 (by decide +kernel)), tyX18_ok, nmX18, rfl, fun h => Or.inr ⟨rfl, h, rfl⟩⟩
  · cases h
    exact ⟨RX18, TX18, 11, tyX18, rfl, by decide, hb_inX18, Or.inl (hb_w8 233 (by decide +kernel)), tyX18_ok, nmX18, rfl, fun h => Or.inr ⟨rfl, h, rfl⟩⟩
  · cases h
    exact ⟨RX18, TX18, 11, tyX18, rfl, by decide, hb_inX18, Or.inl (hb_w8 235 (by decide +kernel)), tyX18_ok, nmX18, rfl, fun h => Or.inr ⟨rfl, h, rfl⟩⟩
  · cases h
    exact ⟨RX18, TX18, 11, tyX18, rfl, by decide, hb_inX18, Or.inl (hb_w8 237 (by decide +kernel)), tyX18_ok, nmX18, rfl, fun _ => Or.inl rfl⟩
  · cases h
def hb_C18 : ab_CT
  | _ => none
theorem hb_C18_ok : ab_Cd RX18 hb_TB vwCl hb_C18 := by
  intro ix ci fs h
  unfold hb_C18 at h
  split at h
  · cases h
def hb_I18 : Nat → Option Int32
  | _ => none
theorem hb_I18_ok : ∀ ix v, hb_I18 ix = some v → Cond.constant RX18 ix v ∈ hb_TB := by
  intro ix v h
  unfold hb_I18 at h
  split at h
  · cases h
def hb_L18 : Nat → Option Int64
  | _ => none
theorem hb_L18_ok : ∀ ix v, hb_L18 ix = some v → Cond.constantLong RX18 ix v ∈ hb_TB := by
  intro ix v h
  unfold hb_L18 at h
  split at h
  · cases h
def hb_T18 : Nat → Option (Nat × Nat × Nat × Nat)
  | 1 => some (4, 0, 0, 0)
  | _ => none
def hb_F19 (isI : Bool) : ab_FT
  | 7 => some (20, 0, (.array .byte), isI)
  | 13 => some (20, 1, .int, true)
  | _ => none
theorem hb_F19_ok (isI : Bool) : ab_Fd RX19 isI hb_TB vwCl (hb_F19 isI) := by
  intro ix ci k ty ok h
  unfold hb_F19 at h
  split at h
  · cases h
    exact ⟨RX19, TX19, 2, tyX19, rfl, by decide, hb_inX19, Or.inl (hb_w8 169 (by decide +kernel)), tyX19_ok, nmX19, rfl, fun h => Or.inr ⟨rfl, h, rfl⟩⟩
  · cases h
    exact ⟨RX19, TX19, 2, tyX19, rfl, by decide, hb_inX19, Or.inl (hb_w8 170 (by decide +kernel)), tyX19_ok, nmX19, rfl, fun _ => Or.inl rfl⟩
  · cases h
def hb_C19 : ab_CT
  | _ => none
theorem hb_C19_ok : ab_Cd RX19 hb_TB vwCl hb_C19 := by
  intro ix ci fs h
  unfold hb_C19 at h
  split at h
  · cases h
def hb_I19 : Nat → Option Int32
  | _ => none
theorem hb_I19_ok : ∀ ix v, hb_I19 ix = some v → Cond.constant RX19 ix v ∈ hb_TB := by
  intro ix v h
  unfold hb_I19 at h
  split at h
  · cases h
def hb_L19 : Nat → Option Int64
  | _ => none
theorem hb_L19_ok : ∀ ix v, hb_L19 ix = some v → Cond.constantLong RX19 ix v ∈ hb_TB := by
  intro ix v h
  unfold hb_L19 at h
  split at h
  · cases h
def hb_T19 : Nat → Option (Nat × Nat × Nat × Nat)
  | 1 => some (4, 0, 0, 0)
  | 17 => some (6, 9472, 0, 0)
  | 23 => some (6, 9473, 1, 0)
  | _ => none
def hb_F20 (isI : Bool) : ab_FT
  | 7 => some (21, 0, .int, true)
  | 13 => some (21, 1, .int, true)
  | 16 => some (21, 2, .int, true)
  | 19 => some (21, 3, .int, true)
  | 22 => some (21, 4, .int, true)
  | 25 => some (21, 5, (.object "DispatchHouseModel$Node"), true)
  | 29 => some (21, 6, (.object "DispatchHouseModel$Node"), true)
  | 32 => some (21, 7, (.object "DispatchHouseModel$Node"), true)
  | 35 => some (21, 8, (.object "DispatchHouseModel$Node"), true)
  | 38 => some (21, 9, .int, true)
  | 41 => some (21, 10, .int, true)
  | 44 => some (21, 11, .long, true)
  | _ => none
theorem hb_F20_ok (isI : Bool) : ab_Fd RX20 isI hb_TB vwCl (hb_F20 isI) := by
  intro ix ci k ty ok h
  unfold hb_F20 at h
  split at h
  · cases h
    exact ⟨RX20, TX20, 12, tyX20, rfl, by decide, hb_inX20, Or.inl (hb_w11 239 (by decide +kernel)), tyX20_ok, nmX20, rfl, fun _ => Or.inl rfl⟩
  · cases h
    exact ⟨RX20, TX20, 12, tyX20, rfl, by decide, hb_inX20, Or.inl (hb_w12 1 (by decide +kernel)), tyX20_ok, nmX20, rfl, fun _ => Or.inl rfl⟩
  · cases h
    exact ⟨RX20, TX20, 12, tyX20, rfl, by decide, hb_inX20, Or.inl (hb_w12 3 (by decide +kernel)), tyX20_ok, nmX20, rfl, fun _ => Or.inl rfl⟩
  · cases h
    exact ⟨RX20, TX20, 12, tyX20, rfl, by decide, hb_inX20, Or.inl (hb_w12 5 (by decide +kernel)), tyX20_ok, nmX20, rfl, fun _ => Or.inl rfl⟩
  · cases h
    exact ⟨RX20, TX20, 12, tyX20, rfl, by decide, hb_inX20, Or.inl (hb_w12 7 (by decide +kernel)), tyX20_ok, nmX20, rfl, fun _ => Or.inl rfl⟩
  · cases h
    exact ⟨RX20, TX20, 12, tyX20, rfl, by decide, hb_inX20, Or.inl (hb_w12 9 (by decide +kernel)), tyX20_ok, nmX20, rfl, fun _ => Or.inl rfl⟩
  · cases h
    exact ⟨RX20, TX20, 12, tyX20, rfl, by decide, hb_inX20, Or.inl (hb_w12 11 (by decide +kernel)), tyX20_ok, nmX20, rfl, fun _ => Or.inl rfl⟩
  · cases h
    exact ⟨RX20, TX20, 12, tyX20, rfl, by decide, hb_inX20, Or.inl (hb_w12 13 (by decide +kernel)), tyX20_ok, nmX20, rfl, fun _ => Or.inl rfl⟩
  · cases h
    exact ⟨RX20, TX20, 12, tyX20, rfl, by decide, hb_inX20, Or.inl (hb_w12 15 (by decide +kernel)), tyX20_ok, nmX20, rfl, fun _ => Or.inl rfl⟩
  · cases h
    exact ⟨RX20, TX20, 12, tyX20, rfl, by decide, hb_inX20, Or.inl (hb_w12 17 (by decide +kernel)), tyX20_ok, nmX20, rfl, fun _ => Or.inl rfl⟩
  · cases h
    exact ⟨RX20, TX20, 12, tyX20, rfl, by decide, hb_inX20, Or.inl (hb_w12 19 (by decide +kernel)), tyX20_ok, nmX20, rfl, fun _ => Or.inl rfl⟩
  · cases h
    exact ⟨RX20, TX20, 12, tyX20, rfl, by decide, hb_inX20, Or.inl (hb_w12 21 (by decide +kernel)), tyX20_ok, nmX20, rfl, fun _ => Or.inl rfl⟩
  · cases h
def hb_C20 : ab_CT
  | _ => none
theorem hb_C20_ok : ab_Cd RX20 hb_TB vwCl hb_C20 := by
  intro ix ci fs h
  unfold hb_C20 at h
  split at h
  · cases h
def hb_I20 : Nat → Option Int32
  | _ => none
theorem hb_I20_ok : ∀ ix v, hb_I20 ix = some v → Cond.constant RX20 ix v ∈ hb_TB := by
  intro ix v h
  unfold hb_I20 at h
  split at h
  · cases h
def hb_L20 : Nat → Option Int64
  | _ => none
theorem hb_L20_ok : ∀ ix v, hb_L20 ix = some v → Cond.constantLong RX20 ix v ∈ hb_TB := by
  intro ix v h
  unfold hb_L20 at h
  split at h
  · cases h
def hb_T20 : Nat → Option (Nat × Nat × Nat × Nat)
  | 1 => some (4, 0, 0, 0)
  | _ => none
def hb_F21 (isI : Bool) : ab_FT
  | 10 => some (22, 0, (.object "java/util/ArrayList"), isI)
  | 16 => some (22, 1, .int, true)
  | _ => none
theorem hb_F21_ok (isI : Bool) : ab_Fd RX21 isI hb_TB vwCl (hb_F21 isI) := by
  intro ix ci k ty ok h
  unfold hb_F21 at h
  split at h
  · cases h
    exact ⟨RX21, TX21, 2, tyX21, rfl, by decide, hb_inX21, Or.inl (hb_w8 147 (by decide +kernel)), tyX21_ok, nmX21, rfl, fun h => Or.inr ⟨rfl, h, rfl⟩⟩
  · cases h
    exact ⟨RX21, TX21, 2, tyX21, rfl, by decide, hb_inX21, Or.inl (hb_w8 148 (by decide +kernel)), tyX21_ok, nmX21, rfl, fun _ => Or.inl rfl⟩
  · cases h
def hb_C21 : ab_CT
  | 7 => some (0, [.int 0, .null, .int 0])
  | 24 => some (21, [.int 0, .int 0, .int 0, .int 0, .int 0, .null, .null, .null, .null, .int 0, .int 0, .long 0])
  | _ => none
theorem hb_C21_ok : ab_Cd RX21 hb_TB vwCl hb_C21 := by
  intro ix ci fs h
  unfold hb_C21 at h
  split at h
  · cases h
    exact ⟨RJx4a65c, TJx4a65c, 3, tyJx4a65c, rfl, hb_inJx4a65c, tyJx4a65c_ok, (hb_w8 121 (by decide +kernel)), (hb_w8 122 (by decide +kernel)), (hb_w1 24 (by decide +kernel)), by decide +kernel, rfl, fun _ => rfl⟩
  · cases h
    exact ⟨RX20, TX20, 12, tyX20, rfl, hb_inX20, tyX20_ok, (hb_w11 233 (by decide +kernel)), (hb_w11 234 (by decide +kernel)), (hb_w1 41 (by decide +kernel)), by decide +kernel, rfl, fun _ => rfl⟩
  · cases h
def hb_I21 : Nat → Option Int32
  | _ => none
theorem hb_I21_ok : ∀ ix v, hb_I21 ix = some v → Cond.constant RX21 ix v ∈ hb_TB := by
  intro ix v h
  unfold hb_I21 at h
  split at h
  · cases h
def hb_L21 : Nat → Option Int64
  | _ => none
theorem hb_L21_ok : ∀ ix v, hb_L21 ix = some v → Cond.constantLong RX21 ix v ∈ hb_TB := by
  intro ix v h
  unfold hb_L21 at h
  split at h
  · cases h
def hb_T21 : Nat → Option (Nat × Nat × Nat × Nat)
  | 1 => some (4, 0, 0, 0)
  | 9 => some (2, 11008, 0, 0)
  | 20 => some (0, 11011, 0, 0)
  | 26 => some (3, 5120, 0, 0)
  | 27 => some (0, 11015, 1, 0)
  | 31 => some (0, 11013, 1, 0)
  | 35 => some (0, 5121, 1, 21)
  | _ => none
def hb_F22 (isI : Bool) : ab_FT
  | 7 => some (23, 6, .int, isI)
  | _ => none
theorem hb_F22_ok (isI : Bool) : ab_Fd RX22 isI hb_TB vwCl (hb_F22 isI) := by
  intro ix ci k ty ok h
  unfold hb_F22 at h
  split at h
  · cases h
    exact ⟨RX22, TX22, 7, tyX22, rfl, by decide, hb_inX22, Or.inl (hb_w11 139 (by decide +kernel)), tyX22_ok, nmX22, rfl, fun h => Or.inr ⟨rfl, h, rfl⟩⟩
  · cases h
def hb_C22 : ab_CT
  | _ => none
theorem hb_C22_ok : ab_Cd RX22 hb_TB vwCl hb_C22 := by
  intro ix ci fs h
  unfold hb_C22 at h
  split at h
  · cases h
def hb_I22 : Nat → Option Int32
  | _ => none
theorem hb_I22_ok : ∀ ix v, hb_I22 ix = some v → Cond.constant RX22 ix v ∈ hb_TB := by
  intro ix v h
  unfold hb_I22 at h
  split at h
  · cases h
def hb_L22 : Nat → Option Int64
  | _ => none
theorem hb_L22_ok : ∀ ix v, hb_L22 ix = some v → Cond.constantLong RX22 ix v ∈ hb_TB := by
  intro ix v h
  unfold hb_L22 at h
  split at h
  · cases h
def hb_T22 : Nat → Option (Nat × Nat × Nat × Nat)
  | 1 => some (2, 16896, 4, 0)
  | _ => none
def hb_F23 (isI : Bool) : ab_FT
  | 1 => some (24, 14, (.array .byte), isI)
  | 13 => some (24, 4, .int, true)
  | 17 => some (24, 0, (.array (.object "DispatchHouseModel$Kind")), isI)
  | 21 => some (18, 0, (.object "DispatchHouseModel$Name"), false)
  | 31 => some (24, 5, .int, true)
  | 34 => some (24, 1, (.array (.object "DispatchHouseModel$Call")), isI)
  | 38 => some (14, 0, (.object "DispatchHouseModel$Name"), false)
  | 41 => some (24, 7, .int, true)
  | 44 => some (24, 3, (.array (.object "DispatchHouseModel$Name")), isI)
  | 66 => some (18, 3, .int, true)
  | 69 => some (18, 2, (.array .int), false)
  | 73 => some (24, 12, (.array .int), isI)
  | 76 => some (24, 13, (.array .int), isI)
  | 79 => some (18, 5, (.array .int), false)
  | 82 => some (24, 11, (.array (.array .int)), isI)
  | 86 => some (18, 4, (.array (.array .int)), false)
  | 99 => some (24, 26, .int, true)
  | 106 => some (24, 18, .int, true)
  | 177 => some (24, 16, .int, true)
  | 180 => some (24, 15, .int, true)
  | 183 => some (24, 17, .int, true)
  | 197 => some (24, 25, (.object "java/lang/String"), true)
  | 213 => some (24, 19, .int, true)
  | 244 => some (24, 27, .int, true)
  | 247 => some (24, 23, .int, true)
  | 250 => some (24, 24, .int, true)
  | 253 => some (24, 20, .int, true)
  | 256 => some (24, 21, .int, true)
  | 282 => some (24, 28, (.object "DispatchHouseModel$Kind"), isI)
  | 290 => some (18, 1, .boolean, true)
  | 299 => some (24, 29, (.object "DispatchHouseModel$Call"), isI)
  | 303 => some (14, 1, .int, true)
  | 306 => some (14, 2, .int, true)
  | 309 => some (14, 3, .int, true)
  | 312 => some (24, 6, .int, true)
  | 315 => some (24, 2, (.array (.object "DispatchHouseModel$Method")), isI)
  | 319 => some (24, 30, (.object "DispatchHouseModel$Method"), isI)
  | 323 => some (19, 0, .int, true)
  | 327 => some (19, 3, .int, true)
  | 330 => some (19, 10, .boolean, true)
  | 333 => some (19, 2, .int, true)
  | 335 => some (19, 8, (.object "DispatchHouseModel$Node"), true)
  | 339 => some (24, 32, .int, true)
  | 346 => some (19, 1, .int, true)
  | 349 => some (24, 8, (.object "DispatchHouseModel$Nodes"), isI)
  | 353 => some (24, 34, (.object "DispatchHouseModel$Nodes"), true)
  | 356 => some (24, 22, .int, true)
  | 362 => some (19, 4, .int, true)
  | 365 => some (19, 7, (.array .boolean), false)
  | 369 => some (24, 33, .int, true)
  | 375 => some (19, 9, (.object "DispatchHouseModel$Node"), true)
  | 382 => some (24, 31, (.array .int), isI)
  | 391 => some (19, 5, (.array .int), false)
  | 393 => some (19, 6, (.array .int), false)
  | 409 => some (21, 5, (.object "DispatchHouseModel$Node"), true)
  | 414 => some (21, 6, (.object "DispatchHouseModel$Node"), true)
  | 432 => some (21, 0, .int, true)
  | 435 => some (21, 2, .int, true)
  | 438 => some (21, 1, .int, true)
  | 439 => some (21, 9, .int, true)
  | 445 => some (21, 11, .long, true)
  | 449 => some (21, 3, .int, true)
  | 450 => some (21, 10, .int, true)
  | 463 => some (21, 7, (.object "DispatchHouseModel$Node"), true)
  | 476 => some (21, 8, (.object "DispatchHouseModel$Node"), true)
  | 479 => some (21, 4, .int, true)
  | 487 => some (24, 41, .int, true)
  | 490 => some (24, 36, (.array (.array .boolean)), isI)
  | 497 => some (24, 40, (.array .int), isI)
  | 500 => some (24, 37, (.array (.array .long)), isI)
  | 504 => some (24, 38, (.array .int), isI)
  | 507 => some (24, 39, (.array .int), isI)
  | 510 => some (24, 35, (.array (.array (.array (.array .long)))), isI)
  | 514 => some (24, 57, (.array (.array .long)), isI)
  | 517 => some (24, 58, (.array (.array .long)), isI)
  | 523 => some (24, 42, (.array .int), isI)
  | 526 => some (24, 47, .int, true)
  | 529 => some (24, 43, (.array .int), isI)
  | 532 => some (24, 45, (.array .long), isI)
  | 543 => some (24, 51, (.array .int), true)
  | 546 => some (24, 50, .int, true)
  | 549 => some (24, 49, (.array .int), isI)
  | 552 => some (24, 52, (.array .boolean), isI)
  | 557 => some (24, 46, (.array (.array .long)), isI)
  | 560 => some (24, 54, .int, true)
  | 566 => some (24, 48, .int, true)
  | 569 => some (24, 53, .int, true)
  | 586 => some (24, 44, (.array .int), isI)
  | 598 => some (24, 55, (.array .int), isI)
  | 601 => some (24, 56, (.array .byte), isI)
  | 612 => some (24, 83, .int, true)
  | 624 => some (24, 60, (.array .int), isI)
  | 627 => some (24, 59, (.array (.array .int)), isI)
  | 638 => some (24, 63, (.array .boolean), isI)
  | 641 => some (24, 61, (.array .long), isI)
  | 644 => some (24, 62, (.array .long), isI)
  | 661 => some (24, 64, .long, true)
  | 664 => some (24, 65, .long, true)
  | 667 => some (24, 66, .long, true)
  | 670 => some (24, 67, .long, true)
  | 683 => some (24, 82, .int, true)
  | 694 => some (24, 68, .long, true)
  | 709 => some (24, 75, .int, true)
  | 711 => some (24, 74, .int, true)
  | 714 => some (24, 72, (.array .int), isI)
  | 720 => some (15, 0, .int, true)
  | 723 => some (15, 2, (.array .int), false)
  | 726 => some (15, 3, (.array .boolean), false)
  | 729 => some (24, 73, .int, true)
  | 732 => some (24, 71, (.array .int), isI)
  | 742 => some (15, 1, (.array (.array .int)), false)
  | 748 => some (24, 78, .long, true)
  | 751 => some (24, 76, (.object "DispatchHouseModel$Failed"), isI)
  | 755 => some (24, 79, .int, true)
  | 758 => some (24, 77, (.object "DispatchHouseModel$Ended"), isI)
  | 762 => some (24, 80, .int, true)
  | 765 => some (24, 81, .int, true)
  | 779 => some (24, 90, (.array (.array .long)), isI)
  | 782 => some (24, 87, .int, true)
  | 787 => some (24, 70, .int, true)
  | 792 => some (24, 85, .int, true)
  | 795 => some (24, 88, (.array .int), isI)
  | 816 => some (24, 94, (.array .int), isI)
  | 819 => some (24, 95, (.array .int), isI)
  | 822 => some (24, 84, .int, true)
  | 828 => some (24, 69, (.array (.object "DispatchHouseModel$Choice")), isI)
  | 859 => some (24, 86, .int, true)
  | 862 => some (24, 89, (.array .int), isI)
  | 865 => some (24, 91, (.array (.object "DispatchHouseModel$Method")), isI)
  | 868 => some (24, 92, (.array (.object "DispatchHouseModel$Choice")), isI)
  | 871 => some (24, 93, (.array .int), isI)
  | 879 => some (24, 96, .boolean, true)
  | 882 => some (24, 97, .long, true)
  | 885 => some (24, 10, (.object "DispatchHouseModel$Node"), true)
  | 890 => some (24, 98, .int, true)
  | 893 => some (24, 99, (.array .int), isI)
  | 896 => some (24, 106, .int, true)
  | 903 => some (24, 100, (.array .int), isI)
  | 909 => some (24, 108, .int, true)
  | 916 => some (24, 102, .int, true)
  | 919 => some (24, 107, .int, true)
  | 922 => some (24, 101, (.array .int), isI)
  | 928 => some (24, 105, (.array .int), isI)
  | 935 => some (24, 109, (.array .boolean), isI)
  | 942 => some (24, 103, (.array .int), isI)
  | 949 => some (24, 104, (.array .int), isI)
  | 957 => some (24, 9, (.object "DispatchHouseModel$Nodes"), isI)
  | 972 => some (24, 113, (.array .byte), true)
  | 975 => some (24, 114, (.array .int), isI)
  | 983 => some (22, 1, .int, true)
  | 1000 => some (24, 110, .int, true)
  | 1010 => some (24, 112, .int, true)
  | 1013 => some (23, 6, .int, false)
  | 1015 => some (24, 111, .int, true)
  | _ => none
theorem hb_F23_ok (isI : Bool) : ab_Fd RX23 isI hb_TB vwCl (hb_F23 isI) := by
  intro ix ci k ty ok h
  unfold hb_F23 at h
  split at h
  · cases h
    exact ⟨RX23, TX23, 115, tyX23, rfl, by decide, hb_inX23, Or.inl (hb_w9 154 (by decide +kernel)), tyX23_ok, nmX23, rfl, fun h => Or.inr ⟨rfl, h, rfl⟩⟩
  · cases h
    exact ⟨RX23, TX23, 115, tyX23, rfl, by decide, hb_inX23, Or.inl (hb_w9 144 (by decide +kernel)), tyX23_ok, nmX23, rfl, fun _ => Or.inl rfl⟩
  · cases h
    exact ⟨RX23, TX23, 115, tyX23, rfl, by decide, hb_inX23, Or.inl (hb_w9 140 (by decide +kernel)), tyX23_ok, nmX23, rfl, fun h => Or.inr ⟨rfl, h, rfl⟩⟩
  · cases h
    exact ⟨RX17, TX17, 6, tyX17, rfl, by decide, hb_inX17, Or.inl (hb_w8 178 (by decide +kernel)), tyX17_ok, nmX17, rfl, fun h => by cases h⟩
  · cases h
    exact ⟨RX23, TX23, 115, tyX23, rfl, by decide, hb_inX23, Or.inl (hb_w9 145 (by decide +kernel)), tyX23_ok, nmX23, rfl, fun _ => Or.inl rfl⟩
  · cases h
    exact ⟨RX23, TX23, 115, tyX23, rfl, by decide, hb_inX23, Or.inl (hb_w9 141 (by decide +kernel)), tyX23_ok, nmX23, rfl, fun h => Or.inr ⟨rfl, h, rfl⟩⟩
  · cases h
    exact ⟨RX13, TX13, 4, tyX13, rfl, by decide, hb_inX13, Or.inl (hb_w8 208 (by decide +kernel)), tyX13_ok, nmX13, rfl, fun h => by cases h⟩
  · cases h
    exact ⟨RX23, TX23, 115, tyX23, rfl, by decide, hb_inX23, Or.inl (hb_w9 147 (by decide +kernel)), tyX23_ok, nmX23, rfl, fun _ => Or.inl rfl⟩
  · cases h
    exact ⟨RX23, TX23, 115, tyX23, rfl, by decide, hb_inX23, Or.inl (hb_w9 143 (by decide +kernel)), tyX23_ok, nmX23, rfl, fun h => Or.inr ⟨rfl, h, rfl⟩⟩
  · cases h
    exact ⟨RX17, TX17, 6, tyX17, rfl, by decide, hb_inX17, Or.inl (hb_w8 182 (by decide +kernel)), tyX17_ok, nmX17, rfl, fun _ => Or.inl rfl⟩
  · cases h
    exact ⟨RX17, TX17, 6, tyX17, rfl, by decide, hb_inX17, Or.inl (hb_w8 181 (by decide +kernel)), tyX17_ok, nmX17, rfl, fun h => by cases h⟩
  · cases h
    exact ⟨RX23, TX23, 115, tyX23, rfl, by decide, hb_inX23, Or.inl (hb_w9 152 (by decide +kernel)), tyX23_ok, nmX23, rfl, fun h => Or.inr ⟨rfl, h, rfl⟩⟩
  · cases h
    exact ⟨RX23, TX23, 115, tyX23, rfl, by decide, hb_inX23, Or.inl (hb_w9 153 (by decide +kernel)), tyX23_ok, nmX23, rfl, fun h => Or.inr ⟨rfl, h, rfl⟩⟩
  · cases h
    exact ⟨RX17, TX17, 6, tyX17, rfl, by decide, hb_inX17, Or.inl (hb_w8 186 (by decide +kernel)), tyX17_ok, nmX17, rfl, fun h => by cases h⟩
  · cases h
    exact ⟨RX23, TX23, 115, tyX23, rfl, by decide, hb_inX23, Or.inl (hb_w9 151 (by decide +kernel)), tyX23_ok, nmX23, rfl, fun h => Or.inr ⟨rfl, h, rfl⟩⟩
  · cases h
    exact ⟨RX17, TX17, 6, tyX17, rfl, by decide, hb_inX17, Or.inl (hb_w8 184 (by decide +kernel)), tyX17_ok, nmX17, rfl, fun h => by cases h⟩
  · cases h
    exact ⟨RX23, TX23, 115, tyX23, rfl, by decide, hb_inX23, Or.inl (hb_w9 166 (by decide +kernel)), tyX23_ok, nmX23, rfl, fun _ => Or.inl rfl⟩
  · cases h
    exact ⟨RX23, TX23, 115, tyX23, rfl, by decide, hb_inX23, Or.inl (hb_w9 158 (by decide +kernel)), tyX23_ok, nmX23, rfl, fun _ => Or.inl rfl⟩
  · cases h
    exact ⟨RX23, TX23, 115, tyX23, rfl, by decide, hb_inX23, Or.inl (hb_w9 156 (by decide +kernel)), tyX23_ok, nmX23, rfl, fun _ => Or.inl rfl⟩
  · cases h
    exact ⟨RX23, TX23, 115, tyX23, rfl, by decide, hb_inX23, Or.inl (hb_w9 155 (by decide +kernel)), tyX23_ok, nmX23, rfl, fun _ => Or.inl rfl⟩
  · cases h
    exact ⟨RX23, TX23, 115, tyX23, rfl, by decide, hb_inX23, Or.inl (hb_w9 157 (by decide +kernel)), tyX23_ok, nmX23, rfl, fun _ => Or.inl rfl⟩
  · cases h
    exact ⟨RX23, TX23, 115, tyX23, rfl, by decide, hb_inX23, Or.inl (hb_w9 165 (by decide +kernel)), tyX23_ok, nmX23, rfl, fun _ => Or.inl rfl⟩
  · cases h
    exact ⟨RX23, TX23, 115, tyX23, rfl, by decide, hb_inX23, Or.inl (hb_w9 159 (by decide +kernel)), tyX23_ok, nmX23, rfl, fun _ => Or.inl rfl⟩
  · cases h
    exact ⟨RX23, TX23, 115, tyX23, rfl, by decide, hb_inX23, Or.inl (hb_w9 167 (by decide +kernel)), tyX23_ok, nmX23, rfl, fun _ => Or.inl rfl⟩
  · cases h
    exact ⟨RX23, TX23, 115, tyX23, rfl, by decide, hb_inX23, Or.inl (hb_w9 163 (by decide +kernel)), tyX23_ok, nmX23, rfl, fun _ => Or.inl rfl⟩
  · cases h
    exact ⟨RX23, TX23, 115, tyX23, rfl, by decide, hb_inX23, Or.inl (hb_w9 164 (by decide +kernel)), tyX23_ok, nmX23, rfl, fun _ => Or.inl rfl⟩
  · cases h
    exact ⟨RX23, TX23, 115, tyX23, rfl, by decide, hb_inX23, Or.inl (hb_w9 160 (by decide +kernel)), tyX23_ok, nmX23, rfl, fun _ => Or.inl rfl⟩
  · cases h
    exact ⟨RX23, TX23, 115, tyX23, rfl, by decide, hb_inX23, Or.inl (hb_w9 161 (by decide +kernel)), tyX23_ok, nmX23, rfl, fun _ => Or.inl rfl⟩
  · cases h
    exact ⟨RX23, TX23, 115, tyX23, rfl, by decide, hb_inX23, Or.inl (hb_w9 168 (by decide +kernel)), tyX23_ok, nmX23, rfl, fun h => Or.inr ⟨rfl, h, rfl⟩⟩
  · cases h
    exact ⟨RX17, TX17, 6, tyX17, rfl, by decide, hb_inX17, Or.inl (hb_w8 179 (by decide +kernel)), tyX17_ok, nmX17, rfl, fun _ => Or.inl rfl⟩
  · cases h
    exact ⟨RX23, TX23, 115, tyX23, rfl, by decide, hb_inX23, Or.inl (hb_w9 169 (by decide +kernel)), tyX23_ok, nmX23, rfl, fun h => Or.inr ⟨rfl, h, rfl⟩⟩
  · cases h
    exact ⟨RX13, TX13, 4, tyX13, rfl, by decide, hb_inX13, Or.inl (hb_w8 209 (by decide +kernel)), tyX13_ok, nmX13, rfl, fun _ => Or.inl rfl⟩
  · cases h
    exact ⟨RX13, TX13, 4, tyX13, rfl, by decide, hb_inX13, Or.inl (hb_w8 210 (by decide +kernel)), tyX13_ok, nmX13, rfl, fun _ => Or.inl rfl⟩
  · cases h
    exact ⟨RX13, TX13, 4, tyX13, rfl, by decide, hb_inX13, Or.inl (hb_w8 211 (by decide +kernel)), tyX13_ok, nmX13, rfl, fun _ => Or.inl rfl⟩
  · cases h
    exact ⟨RX23, TX23, 115, tyX23, rfl, by decide, hb_inX23, Or.inl (hb_w9 146 (by decide +kernel)), tyX23_ok, nmX23, rfl, fun _ => Or.inl rfl⟩
  · cases h
    exact ⟨RX23, TX23, 115, tyX23, rfl, by decide, hb_inX23, Or.inl (hb_w9 142 (by decide +kernel)), tyX23_ok, nmX23, rfl, fun h => Or.inr ⟨rfl, h, rfl⟩⟩
  · cases h
    exact ⟨RX23, TX23, 115, tyX23, rfl, by decide, hb_inX23, Or.inl (hb_w9 170 (by decide +kernel)), tyX23_ok, nmX23, rfl, fun h => Or.inr ⟨rfl, h, rfl⟩⟩
  · cases h
    exact ⟨RX18, TX18, 11, tyX18, rfl, by decide, hb_inX18, Or.inl (hb_w8 226 (by decide +kernel)), tyX18_ok, nmX18, rfl, fun _ => Or.inl rfl⟩
  · cases h
    exact ⟨RX18, TX18, 11, tyX18, rfl, by decide, hb_inX18, Or.inl (hb_w8 229 (by decide +kernel)), tyX18_ok, nmX18, rfl, fun _ => Or.inl rfl⟩
  · cases h
    exact ⟨RX18, TX18, 11, tyX18, rfl, by decide, hb_inX18, Or.inl (hb_w9 0 (by decide +kernel)), tyX18_ok, nmX18, rfl, fun _ => Or.inl rfl⟩
  · cases h
    exact ⟨RX18, TX18, 11, tyX18, rfl, by decide, hb_inX18, Or.inl (hb_w8 228 (by decide +kernel)), tyX18_ok, nmX18, rfl, fun _ => Or.inl rfl⟩
  · cases h
    exact ⟨RX18, TX18, 11, tyX18, rfl, by decide, hb_inX18, Or.inl (hb_w8 238 (by decide +kernel)), tyX18_ok, nmX18, rfl, fun _ => Or.inl rfl⟩
  · cases h
    exact ⟨RX23, TX23, 115, tyX23, rfl, by decide, hb_inX23, Or.inl (hb_w9 172 (by decide +kernel)), tyX23_ok, nmX23, rfl, fun _ => Or.inl rfl⟩
  · cases h
    exact ⟨RX18, TX18, 11, tyX18, rfl, by decide, hb_inX18, Or.inl (hb_w8 227 (by decide +kernel)), tyX18_ok, nmX18, rfl, fun _ => Or.inl rfl⟩
  · cases h
    exact ⟨RX23, TX23, 115, tyX23, rfl, by decide, hb_inX23, Or.inl (hb_w9 148 (by decide +kernel)), tyX23_ok, nmX23, rfl, fun h => Or.inr ⟨rfl, h, rfl⟩⟩
  · cases h
    exact ⟨RX23, TX23, 115, tyX23, rfl, by decide, hb_inX23, Or.inl (hb_w9 174 (by decide +kernel)), tyX23_ok, nmX23, rfl, fun _ => Or.inl rfl⟩
  · cases h
    exact ⟨RX23, TX23, 115, tyX23, rfl, by decide, hb_inX23, Or.inl (hb_w9 162 (by decide +kernel)), tyX23_ok, nmX23, rfl, fun _ => Or.inl rfl⟩
  · cases h
    exact ⟨RX18, TX18, 11, tyX18, rfl, by decide, hb_inX18, Or.inl (hb_w8 230 (by decide +kernel)), tyX18_ok, nmX18, rfl, fun _ => Or.inl rfl⟩
  · cases h
    exact ⟨RX18, TX18, 11, tyX18, rfl, by decide, hb_inX18, Or.inl (hb_w8 236 (by decide +kernel)), tyX18_ok, nmX18, rfl, fun h => by cases h⟩
  · cases h
    exact ⟨RX23, TX23, 115, tyX23, rfl, by decide, hb_inX23, Or.inl (hb_w9 173 (by decide +kernel)), tyX23_ok, nmX23, rfl, fun _ => Or.inl rfl⟩
  · cases h
    exact ⟨RX18, TX18, 11, tyX18, rfl, by decide, hb_inX18, Or.inl (hb_w8 239 (by decide +kernel)), tyX18_ok, nmX18, rfl, fun _ => Or.inl rfl⟩
  · cases h
    exact ⟨RX23, TX23, 115, tyX23, rfl, by decide, hb_inX23, Or.inl (hb_w9 171 (by decide +kernel)), tyX23_ok, nmX23, rfl, fun h => Or.inr ⟨rfl, h, rfl⟩⟩
  · cases h
    exact ⟨RX18, TX18, 11, tyX18, rfl, by decide, hb_inX18, Or.inl (hb_w8 232 (by decide +kernel)), tyX18_ok, nmX18, rfl, fun h => by cases h⟩
  · cases h
    exact ⟨RX18, TX18, 11, tyX18, rfl, by decide, hb_inX18, Or.inl (hb_w8 234 (by decide +kernel)), tyX18_ok, nmX18, rfl, fun h => by cases h⟩
  · cases h
    exact ⟨RX20, TX20, 12, tyX20, rfl, by decide, hb_inX20, Or.inl (hb_w12 10 (by decide +kernel)), tyX20_ok, nmX20, rfl, fun _ => Or.inl rfl⟩
  · cases h
    exact ⟨RX20, TX20, 12, tyX20, rfl, by decide, hb_inX20, Or.inl (hb_w12 12 (by decide +kernel)), tyX20_ok, nmX20, rfl, fun _ => Or.inl rfl⟩
  · cases h
    exact ⟨RX20, TX20, 12, tyX20, rfl, by decide, hb_inX20, Or.inl (hb_w12 0 (by decide +kernel)), tyX20_ok, nmX20, rfl, fun _ => Or.inl rfl⟩
  · cases h
    exact ⟨RX20, TX20, 12, tyX20, rfl, by decide, hb_inX20, Or.inl (hb_w12 4 (by decide +kernel)), tyX20_ok, nmX20, rfl, fun _ => Or.inl rfl⟩
  · cases h
    exact ⟨RX20, TX20, 12, tyX20, rfl, by decide, hb_inX20, Or.inl (hb_w12 2 (by decide +kernel)), tyX20_ok, nmX20, rfl, fun _ => Or.inl rfl⟩
  · cases h
    exact ⟨RX20, TX20, 12, tyX20, rfl, by decide, hb_inX20, Or.inl (hb_w12 18 (by decide +kernel)), tyX20_ok, nmX20, rfl, fun _ => Or.inl rfl⟩
  · cases h
    exact ⟨RX20, TX20, 12, tyX20, rfl, by decide, hb_inX20, Or.inl (hb_w12 22 (by decide +kernel)), tyX20_ok, nmX20, rfl, fun _ => Or.inl rfl⟩
  · cases h
    exact ⟨RX20, TX20, 12, tyX20, rfl, by decide, hb_inX20, Or.inl (hb_w12 6 (by decide +kernel)), tyX20_ok, nmX20, rfl, fun _ => Or.inl rfl⟩
  · cases h
    exact ⟨RX20, TX20, 12, tyX20, rfl, by decide, hb_inX20, Or.inl (hb_w12 20 (by decide +kernel)), tyX20_ok, nmX20, rfl, fun _ => Or.inl rfl⟩
  · cases h
    exact ⟨RX20, TX20, 12, tyX20, rfl, by decide, hb_inX20, Or.inl (hb_w12 14 (by decide +kernel)), tyX20_ok, nmX20, rfl, fun _ => Or.inl rfl⟩
  · cases h
    exact ⟨RX20, TX20, 12, tyX20, rfl, by decide, hb_inX20, Or.inl (hb_w12 16 (by decide +kernel)), tyX20_ok, nmX20, rfl, fun _ => Or.inl rfl⟩
  · cases h
    exact ⟨RX20, TX20, 12, tyX20, rfl, by decide, hb_inX20, Or.inl (hb_w12 8 (by decide +kernel)), tyX20_ok, nmX20, rfl, fun _ => Or.inl rfl⟩
  · cases h
    exact ⟨RX23, TX23, 115, tyX23, rfl, by decide, hb_inX23, Or.inl (hb_w9 181 (by decide +kernel)), tyX23_ok, nmX23, rfl, fun _ => Or.inl rfl⟩
  · cases h
    exact ⟨RX23, TX23, 115, tyX23, rfl, by decide, hb_inX23, Or.inl (hb_w9 176 (by decide +kernel)), tyX23_ok, nmX23, rfl, fun h => Or.inr ⟨rfl, h, rfl⟩⟩
  · cases h
    exact ⟨RX23, TX23, 115, tyX23, rfl, by decide, hb_inX23, Or.inl (hb_w9 180 (by decide +kernel)), tyX23_ok, nmX23, rfl, fun h => Or.inr ⟨rfl, h, rfl⟩⟩
  · cases h
    exact ⟨RX23, TX23, 115, tyX23, rfl, by decide, hb_inX23, Or.inl (hb_w9 177 (by decide +kernel)), tyX23_ok, nmX23, rfl, fun h => Or.inr ⟨rfl, h, rfl⟩⟩
  · cases h
    exact ⟨RX23, TX23, 115, tyX23, rfl, by decide, hb_inX23, Or.inl (hb_w9 178 (by decide +kernel)), tyX23_ok, nmX23, rfl, fun h => Or.inr ⟨rfl, h, rfl⟩⟩
  · cases h
    exact ⟨RX23, TX23, 115, tyX23, rfl, by decide, hb_inX23, Or.inl (hb_w9 179 (by decide +kernel)), tyX23_ok, nmX23, rfl, fun h => Or.inr ⟨rfl, h, rfl⟩⟩
  · cases h
    exact ⟨RX23, TX23, 115, tyX23, rfl, by decide, hb_inX23, Or.inl (hb_w9 175 (by decide +kernel)), tyX23_ok, nmX23, rfl, fun h => Or.inr ⟨rfl, h, rfl⟩⟩
  · cases h
    exact ⟨RX23, TX23, 115, tyX23, rfl, by decide, hb_inX23, Or.inl (hb_w9 197 (by decide +kernel)), tyX23_ok, nmX23, rfl, fun h => Or.inr ⟨rfl, h, rfl⟩⟩
  · cases h
    exact ⟨RX23, TX23, 115, tyX23, rfl, by decide, hb_inX23, Or.inl (hb_w9 198 (by decide +kernel)), tyX23_ok, nmX23, rfl, fun h => Or.inr ⟨rfl, h, rfl⟩⟩
  · cases h
    exact ⟨RX23, TX23, 115, tyX23, rfl, by decide, hb_inX23, Or.inl (hb_w9 182 (by decide +kernel)), tyX23_ok, nmX23, rfl, fun h => Or.inr ⟨rfl, h, rfl⟩⟩
  · cases h
    exact ⟨RX23, TX23, 115, tyX23, rfl, by decide, hb_inX23, Or.inl (hb_w9 187 (by decide +kernel)), tyX23_ok, nmX23, rfl, fun _ => Or.inl rfl⟩
  · cases h
    exact ⟨RX23, TX23, 115, tyX23, rfl, by decide, hb_inX23, Or.inl (hb_w9 183 (by decide +kernel)), tyX23_ok, nmX23, rfl, fun h => Or.inr ⟨rfl, h, rfl⟩⟩
  · cases h
    exact ⟨RX23, TX23, 115, tyX23, rfl, by decide, hb_inX23, Or.inl (hb_w9 185 (by decide +kernel)), tyX23_ok, nmX23, rfl, fun h => Or.inr ⟨rfl, h, rfl⟩⟩
  · cases h
    exact ⟨RX23, TX23, 115, tyX23, rfl, by decide, hb_inX23, Or.inl (hb_w9 191 (by decide +kernel)), tyX23_ok, nmX23, rfl, fun _ => Or.inl rfl⟩
  · cases h
    exact ⟨RX23, TX23, 115, tyX23, rfl, by decide, hb_inX23, Or.inl (hb_w9 190 (by decide +kernel)), tyX23_ok, nmX23, rfl, fun _ => Or.inl rfl⟩
  · cases h
    exact ⟨RX23, TX23, 115, tyX23, rfl, by decide, hb_inX23, Or.inl (hb_w9 189 (by decide +kernel)), tyX23_ok, nmX23, rfl, fun h => Or.inr ⟨rfl, h, rfl⟩⟩
  · cases h
    exact ⟨RX23, TX23, 115, tyX23, rfl, by decide, hb_inX23, Or.inl (hb_w9 192 (by decide +kernel)), tyX23_ok, nmX23, rfl, fun h => Or.inr ⟨rfl, h, rfl⟩⟩
  · cases h
    exact ⟨RX23, TX23, 115, tyX23, rfl, by decide, hb_inX23, Or.inl (hb_w9 186 (by decide +kernel)), tyX23_ok, nmX23, rfl, fun h => Or.inr ⟨rfl, h, rfl⟩⟩
  · cases h
    exact ⟨RX23, TX23, 115, tyX23, rfl, by decide, hb_inX23, Or.inl (hb_w9 194 (by decide +kernel)), tyX23_ok, nmX23, rfl, fun _ => Or.inl rfl⟩
  · cases h
    exact ⟨RX23, TX23, 115, tyX23, rfl, by decide, hb_inX23, Or.inl (hb_w9 188 (by decide +kernel)), tyX23_ok, nmX23, rfl, fun _ => Or.inl rfl⟩
  · cases h
    exact ⟨RX23, TX23, 115, tyX23, rfl, by decide, hb_inX23, Or.inl (hb_w9 193 (by decide +kernel)), tyX23_ok, nmX23, rfl, fun _ => Or.inl rfl⟩
  · cases h
    exact ⟨RX23, TX23, 115, tyX23, rfl, by decide, hb_inX23, Or.inl (hb_w9 184 (by decide +kernel)), tyX23_ok, nmX23, rfl, fun h => Or.inr ⟨rfl, h, rfl⟩⟩
  · cases h
    exact ⟨RX23, TX23, 115, tyX23, rfl, by decide, hb_inX23, Or.inl (hb_w9 195 (by decide +kernel)), tyX23_ok, nmX23, rfl, fun h => Or.inr ⟨rfl, h, rfl⟩⟩
  · cases h
    exact ⟨RX23, TX23, 115, tyX23, rfl, by decide, hb_inX23, Or.inl (hb_w9 196 (by decide +kernel)), tyX23_ok, nmX23, rfl, fun h => Or.inr ⟨rfl, h, rfl⟩⟩
  · cases h
    exact ⟨RX23, TX23, 115, tyX23, rfl, by decide, hb_inX23, Or.inl (hb_w9 223 (by decide +kernel)), tyX23_ok, nmX23, rfl, fun _ => Or.inl rfl⟩
  · cases h
    exact ⟨RX23, TX23, 115, tyX23, rfl, by decide, hb_inX23, Or.inl (hb_w9 200 (by decide +kernel)), tyX23_ok, nmX23, rfl, fun h => Or.inr ⟨rfl, h, rfl⟩⟩
  · cases h
    exact ⟨RX23, TX23, 115, tyX23, rfl, by decide, hb_inX23, Or.inl (hb_w9 199 (by decide +kernel)), tyX23_ok, nmX23, rfl, fun h => Or.inr ⟨rfl, h, rfl⟩⟩
  · cases h
    exact ⟨RX23, TX23, 115, tyX23, rfl, by decide, hb_inX23, Or.inl (hb_w9 203 (by decide +kernel)), tyX23_ok, nmX23, rfl, fun h => Or.inr ⟨rfl, h, rfl⟩⟩
  · cases h
    exact ⟨RX23, TX23, 115, tyX23, rfl, by decide, hb_inX23, Or.inl (hb_w9 201 (by decide +kernel)), tyX23_ok, nmX23, rfl, fun h => Or.inr ⟨rfl, h, rfl⟩⟩
  · cases h
    exact ⟨RX23, TX23, 115, tyX23, rfl, by decide, hb_inX23, Or.inl (hb_w9 202 (by decide +kernel)), tyX23_ok, nmX23, rfl, fun h => Or.inr ⟨rfl, h, rfl⟩⟩
  · cases h
    exact ⟨RX23, TX23, 115, tyX23, rfl, by decide, hb_inX23, Or.inl (hb_w9 204 (by decide +kernel)), tyX23_ok, nmX23, rfl, fun _ => Or.inl rfl⟩
  · cases h
    exact ⟨RX23, TX23, 115, tyX23, rfl, by decide, hb_inX23, Or.inl (hb_w9 205 (by decide +kernel)), tyX23_ok, nmX23, rfl, fun _ => Or.inl rfl⟩
  · cases h
    exact ⟨RX23, TX23, 115, tyX23, rfl, by decide, hb_inX23, Or.inl (hb_w9 206 (by decide +kernel)), tyX23_ok, nmX23, rfl, fun _ => Or.inl rfl⟩
  · cases h
    exact ⟨RX23, TX23, 115, tyX23, rfl, by decide, hb_inX23, Or.inl (hb_w9 207 (by decide +kernel)), tyX23_ok, nmX23, rfl, fun _ => Or.inl rfl⟩
  · cases h
    exact ⟨RX23, TX23, 115, tyX23, rfl, by decide, hb_inX23, Or.inl (hb_w9 222 (by decide +kernel)), tyX23_ok, nmX23, rfl, fun _ => Or.inl rfl⟩
  · cases h
    exact ⟨RX23, TX23, 115, tyX23, rfl, by decide, hb_inX23, Or.inl (hb_w9 208 (by decide +kernel)), tyX23_ok, nmX23, rfl, fun _ => Or.inl rfl⟩
  · cases h
    exact ⟨RX23, TX23, 115, tyX23, rfl, by decide, hb_inX23, Or.inl (hb_w9 215 (by decide +kernel)), tyX23_ok, nmX23, rfl, fun _ => Or.inl rfl⟩
  · cases h
    exact ⟨RX23, TX23, 115, tyX23, rfl, by decide, hb_inX23, Or.inl (hb_w9 214 (by decide +kernel)), tyX23_ok, nmX23, rfl, fun _ => Or.inl rfl⟩
  · cases h
    exact ⟨RX23, TX23, 115, tyX23, rfl, by decide, hb_inX23, Or.inl (hb_w9 212 (by decide +kernel)), tyX23_ok, nmX23, rfl, fun h => Or.inr ⟨rfl, h, rfl⟩⟩
  · cases h
    exact ⟨RX14, TX14, 4, tyX14, rfl, by decide, hb_inX14, Or.inl (hb_w9 79 (by decide +kernel)), tyX14_ok, nmX14, rfl, fun _ => Or.inl rfl⟩
  · cases h
    exact ⟨RX14, TX14, 4, tyX14, rfl, by decide, hb_inX14, Or.inl (hb_w9 83 (by decide +kernel)), tyX14_ok, nmX14, rfl, fun h => by cases h⟩
  · cases h
    exact ⟨RX14, TX14, 4, tyX14, rfl, by decide, hb_inX14, Or.inl (hb_w9 85 (by decide +kernel)), tyX14_ok, nmX14, rfl, fun h => by cases h⟩
  · cases h
    exact ⟨RX23, TX23, 115, tyX23, rfl, by decide, hb_inX23, Or.inl (hb_w9 213 (by decide +kernel)), tyX23_ok, nmX23, rfl, fun _ => Or.inl rfl⟩
  · cases h
    exact ⟨RX23, TX23, 115, tyX23, rfl, by decide, hb_inX23, Or.inl (hb_w9 211 (by decide +kernel)), tyX23_ok, nmX23, rfl, fun h => Or.inr ⟨rfl, h, rfl⟩⟩
  · cases h
    exact ⟨RX14, TX14, 4, tyX14, rfl, by decide, hb_inX14, Or.inl (hb_w9 81 (by decide +kernel)), tyX14_ok, nmX14, rfl, fun h => by cases h⟩
  · cases h
    exact ⟨RX23, TX23, 115, tyX23, rfl, by decide, hb_inX23, Or.inl (hb_w9 218 (by decide +kernel)), tyX23_ok, nmX23, rfl, fun _ => Or.inl rfl⟩
  · cases h
    exact ⟨RX23, TX23, 115, tyX23, rfl, by decide, hb_inX23, Or.inl (hb_w9 216 (by decide +kernel)), tyX23_ok, nmX23, rfl, fun h => Or.inr ⟨rfl, h, rfl⟩⟩
  · cases h
    exact ⟨RX23, TX23, 115, tyX23, rfl, by decide, hb_inX23, Or.inl (hb_w9 219 (by decide +kernel)), tyX23_ok, nmX23, rfl, fun _ => Or.inl rfl⟩
  · cases h
    exact ⟨RX23, TX23, 115, tyX23, rfl, by decide, hb_inX23, Or.inl (hb_w9 217 (by decide +kernel)), tyX23_ok, nmX23, rfl, fun h => Or.inr ⟨rfl, h, rfl⟩⟩
  · cases h
    exact ⟨RX23, TX23, 115, tyX23, rfl, by decide, hb_inX23, Or.inl (hb_w9 220 (by decide +kernel)), tyX23_ok, nmX23, rfl, fun _ => Or.inl rfl⟩
  · cases h
    exact ⟨RX23, TX23, 115, tyX23, rfl, by decide, hb_inX23, Or.inl (hb_w9 221 (by decide +kernel)), tyX23_ok, nmX23, rfl, fun _ => Or.inl rfl⟩
  · cases h
    exact ⟨RX23, TX23, 115, tyX23, rfl, by decide, hb_inX23, Or.inl (hb_w9 230 (by decide +kernel)), tyX23_ok, nmX23, rfl, fun h => Or.inr ⟨rfl, h, rfl⟩⟩
  · cases h
    exact ⟨RX23, TX23, 115, tyX23, rfl, by decide, hb_inX23, Or.inl (hb_w9 227 (by decide +kernel)), tyX23_ok, nmX23, rfl, fun _ => Or.inl rfl⟩
  · cases h
    exact ⟨RX23, TX23, 115, tyX23, rfl, by decide, hb_inX23, Or.inl (hb_w9 210 (by decide +kernel)), tyX23_ok, nmX23, rfl, fun _ => Or.inl rfl⟩
  · cases h
    exact ⟨RX23, TX23, 115, tyX23, rfl, by decide, hb_inX23, Or.inl (hb_w9 225 (by decide +kernel)), tyX23_ok, nmX23, rfl, fun _ => Or.inl rfl⟩
  · cases h
    exact ⟨RX23, TX23, 115, tyX23, rfl, by decide, hb_inX23, Or.inl (hb_w9 228 (by decide +kernel)), tyX23_ok, nmX23, rfl, fun h => Or.inr ⟨rfl, h, rfl⟩⟩
  · cases h
    exact ⟨RX23, TX23, 115, tyX23, rfl, by decide, hb_inX23, Or.inl (hb_w9 234 (by decide +kernel)), tyX23_ok, nmX23, rfl, fun h => Or.inr ⟨rfl, h, rfl⟩⟩
  · cases h
    exact ⟨RX23, TX23, 115, tyX23, rfl, by decide, hb_inX23, Or.inl (hb_w9 235 (by decide +kernel)), tyX23_ok, nmX23, rfl, fun h => Or.inr ⟨rfl, h, rfl⟩⟩
  · cases h
    exact ⟨RX23, TX23, 115, tyX23, rfl, by decide, hb_inX23, Or.inl (hb_w9 224 (by decide +kernel)), tyX23_ok, nmX23, rfl, fun _ => Or.inl rfl⟩
  · cases h
    exact ⟨RX23, TX23, 115, tyX23, rfl, by decide, hb_inX23, Or.inl (hb_w9 209 (by decide +kernel)), tyX23_ok, nmX23, rfl, fun h => Or.inr ⟨rfl, h, rfl⟩⟩
  · cases h
    exact ⟨RX23, TX23, 115, tyX23, rfl, by decide, hb_inX23, Or.inl (hb_w9 226 (by decide +kernel)), tyX23_ok, nmX23, rfl, fun _ => Or.inl rfl⟩
  · cases h
    exact ⟨RX23, TX23, 115, tyX23, rfl, by decide, hb_inX23, Or.inl (hb_w9 229 (by decide +kernel)), tyX23_ok, nmX23, rfl, fun h => Or.inr ⟨rfl, h, rfl⟩⟩
  · cases h
    exact ⟨RX23, TX23, 115, tyX23, rfl, by decide, hb_inX23, Or.inl (hb_w9 231 (by decide +kernel)), tyX23_ok, nmX23, rfl, fun h => Or.inr ⟨rfl, h, rfl⟩⟩
  · cases h
    exact ⟨RX23, TX23, 115, tyX23, rfl, by decide, hb_inX23, Or.inl (hb_w9 232 (by decide +kernel)), tyX23_ok, nmX23, rfl, fun h => Or.inr ⟨rfl, h, rfl⟩⟩
  · cases h
    exact ⟨RX23, TX23, 115, tyX23, rfl, by decide, hb_inX23, Or.inl (hb_w9 233 (by decide +kernel)), tyX23_ok, nmX23, rfl, fun h => Or.inr ⟨rfl, h, rfl⟩⟩
  · cases h
    exact ⟨RX23, TX23, 115, tyX23, rfl, by decide, hb_inX23, Or.inl (hb_w9 236 (by decide +kernel)), tyX23_ok, nmX23, rfl, fun _ => Or.inl rfl⟩
  · cases h
    exact ⟨RX23, TX23, 115, tyX23, rfl, by decide, hb_inX23, Or.inl (hb_w9 237 (by decide +kernel)), tyX23_ok, nmX23, rfl, fun _ => Or.inl rfl⟩
  · cases h
    exact ⟨RX23, TX23, 115, tyX23, rfl, by decide, hb_inX23, Or.inl (hb_w9 150 (by decide +kernel)), tyX23_ok, nmX23, rfl, fun _ => Or.inl rfl⟩
  · cases h
    exact ⟨RX23, TX23, 115, tyX23, rfl, by decide, hb_inX23, Or.inl (hb_w9 238 (by decide +kernel)), tyX23_ok, nmX23, rfl, fun _ => Or.inl rfl⟩
  · cases h
    exact ⟨RX23, TX23, 115, tyX23, rfl, by decide, hb_inX23, Or.inl (hb_w9 239 (by decide +kernel)), tyX23_ok, nmX23, rfl, fun h => Or.inr ⟨rfl, h, rfl⟩⟩
  · cases h
    exact ⟨RX23, TX23, 115, tyX23, rfl, by decide, hb_inX23, Or.inl (hb_w10 6 (by decide +kernel)), tyX23_ok, nmX23, rfl, fun _ => Or.inl rfl⟩
  · cases h
    exact ⟨RX23, TX23, 115, tyX23, rfl, by decide, hb_inX23, Or.inl (hb_w10 0 (by decide +kernel)), tyX23_ok, nmX23, rfl, fun h => Or.inr ⟨rfl, h, rfl⟩⟩
  · cases h
    exact ⟨RX23, TX23, 115, tyX23, rfl, by decide, hb_inX23, Or.inl (hb_w10 8 (by decide +kernel)), tyX23_ok, nmX23, rfl, fun _ => Or.inl rfl⟩
  · cases h
    exact ⟨RX23, TX23, 115, tyX23, rfl, by decide, hb_inX23, Or.inl (hb_w10 2 (by decide +kernel)), tyX23_ok, nmX23, rfl, fun _ => Or.inl rfl⟩
  · cases h
    exact ⟨RX23, TX23, 115, tyX23, rfl, by decide, hb_inX23, Or.inl (hb_w10 7 (by decide +kernel)), tyX23_ok, nmX23, rfl, fun _ => Or.inl rfl⟩
  · cases h
    exact ⟨RX23, TX23, 115, tyX23, rfl, by decide, hb_inX23, Or.inl (hb_w10 1 (by decide +kernel)), tyX23_ok, nmX23, rfl, fun h => Or.inr ⟨rfl, h, rfl⟩⟩
  · cases h
    exact ⟨RX23, TX23, 115, tyX23, rfl, by decide, hb_inX23, Or.inl (hb_w10 5 (by decide +kernel)), tyX23_ok, nmX23, rfl, fun h => Or.inr ⟨rfl, h, rfl⟩⟩
  · cases h
    exact ⟨RX23, TX23, 115, tyX23, rfl, by decide, hb_inX23, Or.inl (hb_w10 9 (by decide +kernel)), tyX23_ok, nmX23, rfl, fun h => Or.inr ⟨rfl, h, rfl⟩⟩
  · cases h
    exact ⟨RX23, TX23, 115, tyX23, rfl, by decide, hb_inX23, Or.inl (hb_w10 3 (by decide +kernel)), tyX23_ok, nmX23, rfl, fun h => Or.inr ⟨rfl, h, rfl⟩⟩
  · cases h
    exact ⟨RX23, TX23, 115, tyX23, rfl, by decide, hb_inX23, Or.inl (hb_w10 4 (by decide +kernel)), tyX23_ok, nmX23, rfl, fun h => Or.inr ⟨rfl, h, rfl⟩⟩
  · cases h
    exact ⟨RX23, TX23, 115, tyX23, rfl, by decide, hb_inX23, Or.inl (hb_w9 149 (by decide +kernel)), tyX23_ok, nmX23, rfl, fun h => Or.inr ⟨rfl, h, rfl⟩⟩
  · cases h
    exact ⟨RX23, TX23, 115, tyX23, rfl, by decide, hb_inX23, Or.inl (hb_w10 13 (by decide +kernel)), tyX23_ok, nmX23, rfl, fun _ => Or.inl rfl⟩
  · cases h
    exact ⟨RX23, TX23, 115, tyX23, rfl, by decide, hb_inX23, Or.inl (hb_w10 14 (by decide +kernel)), tyX23_ok, nmX23, rfl, fun h => Or.inr ⟨rfl, h, rfl⟩⟩
  · cases h
    exact ⟨RX21, TX21, 2, tyX21, rfl, by decide, hb_inX21, Or.inl (hb_w8 149 (by decide +kernel)), tyX21_ok, nmX21, rfl, fun _ => Or.inl rfl⟩
  · cases h
    exact ⟨RX23, TX23, 115, tyX23, rfl, by decide, hb_inX23, Or.inl (hb_w10 10 (by decide +kernel)), tyX23_ok, nmX23, rfl, fun _ => Or.inl rfl⟩
  · cases h
    exact ⟨RX23, TX23, 115, tyX23, rfl, by decide, hb_inX23, Or.inl (hb_w10 12 (by decide +kernel)), tyX23_ok, nmX23, rfl, fun _ => Or.inl rfl⟩
  · cases h
    exact ⟨RX22, TX22, 7, tyX22, rfl, by decide, hb_inX22, Or.inl (hb_w11 140 (by decide +kernel)), tyX22_ok, nmX22, rfl, fun h => by cases h⟩
  · cases h
    exact ⟨RX23, TX23, 115, tyX23, rfl, by decide, hb_inX23, Or.inl (hb_w10 11 (by decide +kernel)), tyX23_ok, nmX23, rfl, fun _ => Or.inl rfl⟩
  · cases h
def hb_C23 : ab_CT
  | 8 => some (20, [.null, .int 0])
  | 22 => some (18, [.null, .int 0, .null, .int 0, .null, .null])
  | 39 => some (14, [.null, .int 0, .int 0, .int 0])
  | 223 => some (23, [.null, .null, .null, .null, .null, .int 0, .int 0])
  | 324 => some (19, [.int 0, .int 0, .int 0, .int 0, .int 0, .null, .null, .null, .null, .null, .int 0])
  | 404 => some (22, [.null, .int 0])
  | 721 => some (15, [.int 0, .null, .null, .null])
  | 790 => some (17, [.null, .null, .null, .null, .null, .int 0])
  | 888 => some (16, [.null, .null, .null, .null, .null, .int 0])
  | _ => none
theorem hb_C23_ok : ab_Cd RX23 hb_TB vwCl hb_C23 := by
  intro ix ci fs h
  unfold hb_C23 at h
  split at h
  · cases h
    exact ⟨RX19, TX19, 2, tyX19, rfl, hb_inX19, tyX19_ok, (hb_w8 113 (by decide +kernel)), (hb_w8 164 (by decide +kernel)), (hb_w1 26 (by decide +kernel)), by decide +kernel, rfl, fun _ => rfl⟩
  · cases h
    exact ⟨RX17, TX17, 6, tyX17, rfl, hb_inX17, tyX17_ok, (hb_w8 107 (by decide +kernel)), (hb_w8 158 (by decide +kernel)), (hb_w1 25 (by decide +kernel)), by decide +kernel, rfl, fun _ => rfl⟩
  · cases h
    exact ⟨RX13, TX13, 4, tyX13, rfl, hb_inX13, tyX13_ok, (hb_w8 109 (by decide +kernel)), (hb_w8 200 (by decide +kernel)), (hb_w1 27 (by decide +kernel)), by decide +kernel, rfl, fun _ => rfl⟩
  · cases h
    exact ⟨RX22, TX22, 7, tyX22, rfl, hb_inX22, tyX22_ok, (hb_w11 30 (by decide +kernel)), (hb_w11 127 (by decide +kernel)), (hb_w1 40 (by decide +kernel)), by decide +kernel, rfl, fun _ => rfl⟩
  · cases h
    exact ⟨RX18, TX18, 11, tyX18, rfl, hb_inX18, tyX18_ok, (hb_w8 111 (by decide +kernel)), (hb_w8 221 (by decide +kernel)), (hb_w1 28 (by decide +kernel)), by decide +kernel, rfl, fun _ => rfl⟩
  · cases h
    exact ⟨RX21, TX21, 2, tyX21, rfl, hb_inX21, tyX21_ok, (hb_w8 115 (by decide +kernel)), (hb_w8 116 (by decide +kernel)), (hb_w1 21 (by decide +kernel)), by decide +kernel, rfl, fun _ => rfl⟩
  · cases h
    exact ⟨RX14, TX14, 4, tyX14, rfl, hb_inX14, tyX14_ok, (hb_w9 32 (by decide +kernel)), (hb_w9 73 (by decide +kernel)), (hb_w1 34 (by decide +kernel)), by decide +kernel, rfl, fun _ => rfl⟩
  · cases h
    exact ⟨RX16, TX16, 6, tyX16, rfl, hb_inX16, tyX16_ok, (hb_w9 34 (by decide +kernel)), (hb_w9 35 (by decide +kernel)), (hb_w1 32 (by decide +kernel)), by decide +kernel, rfl, fun _ => rfl⟩
  · cases h
    exact ⟨RX15, TX15, 6, tyX15, rfl, hb_inX15, tyX15_ok, (hb_w9 57 (by decide +kernel)), (hb_w9 58 (by decide +kernel)), (hb_w1 33 (by decide +kernel)), by decide +kernel, rfl, fun _ => rfl⟩
  · cases h
def hb_I23 : Nat → Option Int32
  | 647 => some (65535)
  | 969 => some (65536)
  | 1014 => some (100000)
  | _ => none
theorem hb_I23_ok : ∀ ix v, hb_I23 ix = some v → Cond.constant RX23 ix v ∈ hb_TB := by
  intro ix v h
  unfold hb_I23 at h
  split at h
  · cases h
    exact (hb_w13 68 (by decide +kernel))
  · cases h
    exact (hb_w9 31 (by decide +kernel))
  · cases h
    exact (hb_w12 207 (by decide +kernel))
  · cases h
def hb_L23 : Nat → Option Int64
  | 201 => some (10)
  | 203 => some (48)
  | 205 => some (1099511627776)
  | 216 => some (2147483647)
  | 555 => some (2147483648)
  | 622 => some (-1)
  | 634 => some (-7046029254386353131)
  | 636 => some (-4417276706812531889)
  | 689 => some (15)
  | 743 => some (4294967295)
  | _ => none
theorem hb_L23_ok : ∀ ix v, hb_L23 ix = some v → Cond.constantLong RX23 ix v ∈ hb_TB := by
  intro ix v h
  unfold hb_L23 at h
  split at h
  · cases h
    exact (hb_w11 92 (by decide +kernel))
  · cases h
    exact (hb_w11 93 (by decide +kernel))
  · cases h
    exact (hb_w11 94 (by decide +kernel))
  · cases h
    exact (hb_w11 96 (by decide +kernel))
  · cases h
    exact (hb_w13 16 (by decide +kernel))
  · cases h
    exact (hb_w13 54 (by decide +kernel))
  · cases h
    exact (hb_w13 66 (by decide +kernel))
  · cases h
    exact (hb_w13 67 (by decide +kernel))
  · cases h
    exact (hb_w13 156 (by decide +kernel))
  · cases h
    exact (hb_w13 137 (by decide +kernel))
  · cases h
def hb_T23 : Nat → Option (Nat × Nat × Nat × Nat)
  | 7 => some (0, 4867, 3, 20)
  | 27 => some (0, 5888, 2, 24)
  | 48 => some (0, 5890, 1, 24)
  | 52 => some (0, 5891, 1, 24)
  | 55 => some (0, 5892, 1, 24)
  | 58 => some (0, 4353, 2, 18)
  | 62 => some (0, 5897, 3, 24)
  | 89 => some (0, 5896, 2, 24)
  | 93 => some (6, 9472, 0, 0)
  | 102 => some (6, 9473, 1, 0)
  | 110 => some (0, 5900, 1, 24)
  | 186 => some (1, 5898, 1, 0)
  | 190 => some (1, 5899, 1, 0)
  | 193 => some (0, 5901, 0, 24)
  | 207 => some (9, 0, 0, 0)
  | 220 => some (6, 9475, 1, 0)
  | 225 => some (2, 5632, 1, 0)
  | 229 => some (6, 9474, 1, 0)
  | 233 => some (0, 5904, 1, 24)
  | 235 => some (0, 5903, 0, 24)
  | 239 => some (0, 5902, 0, 24)
  | 242 => some (0, 5905, 1, 24)
  | 259 => some (0, 5910, 2, 24)
  | 263 => some (0, 5914, 0, 24)
  | 266 => some (0, 5908, 1, 24)
  | 269 => some (0, 5915, 0, 24)
  | 271 => some (0, 5916, 0, 24)
  | 273 => some (0, 5917, 0, 24)
  | 275 => some (0, 5918, 0, 24)
  | 277 => some (0, 5909, 0, 24)
  | 279 => some (0, 5893, 1, 24)
  | 286 => some (0, 4865, 3, 20)
  | 293 => some (0, 5906, 1, 24)
  | 296 => some (0, 5895, 1, 24)
  | 342 => some (0, 5919, 2, 24)
  | 359 => some (0, 5922, 0, 24)
  | 372 => some (0, 5930, 0, 24)
  | 378 => some (0, 5921, 1, 24)
  | 385 => some (0, 5889, 2, 24)
  | 388 => some (0, 5920, 0, 24)
  | 396 => some (0, 5924, 0, 24)
  | 399 => some (0, 5923, 3, 24)
  | 403 => some (0, 5377, 1, 22)
  | 417 => some (0, 5926, 0, 24)
  | 420 => some (0, 5911, 0, 24)
  | 423 => some (0, 5927, 0, 24)
  | 426 => some (0, 5925, 2, 24)
  | 429 => some (0, 5928, 1, 24)
  | 442 => some (0, 5929, 0, 24)
  | 453 => some (0, 5912, 1, 24)
  | 456 => some (0, 5907, 1, 24)
  | 459 => some (0, 5931, 2, 24)
  | 466 => some (0, 5932, 0, 24)
  | 469 => some (0, 5933, 1, 24)
  | 473 => some (0, 5934, 0, 24)
  | 480 => some (0, 5935, 1, 24)
  | 483 => some (0, 5936, 2, 24)
  | 494 => some (0, 5894, 2, 24)
  | 520 => some (0, 5949, 0, 24)
  | 536 => some (0, 5940, 3, 24)
  | 540 => some (0, 5941, 1, 24)
  | 563 => some (0, 5943, 1, 24)
  | 572 => some (0, 5947, 1, 24)
  | 576 => some (1, 8962, 1, 0)
  | 582 => some (1, 5944, 4, 0)
  | 589 => some (1, 5945, 2, 0)
  | 592 => some (0, 5948, 1, 24)
  | 596 => some (1, 5946, 1, 0)
  | 604 => some (0, 5951, 4, 24)
  | 608 => some (0, 5952, 3, 24)
  | 613 => some (1, 8448, 2, 0)
  | 618 => some (0, 5942, 1, 24)
  | 630 => some (1, 5954, 4, 0)
  | 648 => some (0, 5953, 1, 24)
  | 651 => some (0, 5956, 0, 24)
  | 654 => some (0, 5955, 2, 24)
  | 658 => some (1, 5959, 3, 0)
  | 673 => some (0, 5961, 3, 24)
  | 677 => some (0, 5960, 1, 24)
  | 680 => some (0, 5962, 2, 24)
  | 686 => some (0, 5963, 1, 24)
  | 691 => some (1, 5965, 2, 0)
  | 697 => some (1, 5967, 2, 0)
  | 701 => some (0, 5970, 3, 24)
  | 705 => some (1, 5969, 2, 0)
  | 716 => some (0, 5950, 3, 24)
  | 735 => some (0, 5971, 1, 24)
  | 739 => some (7, 0, 0, 0)
  | 745 => some (1, 5973, 2, 0)
  | 768 => some (0, 5976, 1, 24)
  | 772 => some (0, 5977, 0, 24)
  | 775 => some (0, 6088, 1, 24)
  | 785 => some (1, 5966, 2, 0)
  | 798 => some (1, 5974, 1, 0)
  | 801 => some (0, 5978, 1, 24)
  | 804 => some (0, 6089, 4, 24)
  | 808 => some (0, 5980, 3, 24)
  | 812 => some (0, 5975, 1, 24)
  | 825 => some (0, 5964, 2, 24)
  | 832 => some (0, 5979, 2, 24)
  | 836 => some (0, 6090, 6, 24)
  | 840 => some (0, 5981, 4, 24)
  | 844 => some (1, 5937, 2, 0)
  | 847 => some (0, 5939, 2, 24)
  | 851 => some (0, 5968, 3, 24)
  | 855 => some (0, 5972, 3, 24)
  | 874 => some (0, 5982, 5, 24)
  | 877 => some (8, 0, 0, 0)
  | 899 => some (0, 5958, 2, 24)
  | 906 => some (0, 5984, 1, 24)
  | 912 => some (0, 5985, 1, 24)
  | 925 => some (0, 4609, 1, 19)
  | 931 => some (0, 5986, 1, 24)
  | 938 => some (0, 5988, 2, 24)
  | 945 => some (1, 5987, 1, 0)
  | 952 => some (4, 0, 0, 0)
  | 956 => some (3, 5376, 0, 0)
  | 963 => some (3, 4352, 0, 0)
  | 964 => some (3, 3328, 0, 0)
  | 965 => some (3, 4608, 0, 0)
  | 970 => some (2, 4096, 0, 0)
  | 971 => some (2, 3840, 0, 0)
  | 978 => some (3, 4864, 0, 0)
  | 979 => some (3, 3584, 0, 0)
  | 980 => some (0, 5990, 0, 24)
  | 987 => some (0, 5991, 2, 24)
  | 995 => some (0, 5938, 0, 24)
  | 998 => some (0, 4866, 1, 20)
  | 1003 => some (0, 5993, 1, 24)
  | 1005 => some (0, 5995, 2, 24)
  | 1007 => some (0, 5913, 0, 24)
  | 1018 => some (0, 6001, 1, 24)
  | 1021 => some (0, 5957, 1, 24)
  | 1024 => some (0, 5983, 1, 24)
  | 1027 => some (0, 6091, 0, 24)
  | _ => none
def hb_F31 (isI : Bool) : ab_FT
  | _ => none
theorem hb_F31_ok (isI : Bool) : ab_Fd RJ11 isI hb_TB vwCl (hb_F31 isI) := by
  intro ix ci k ty ok h
  unfold hb_F31 at h
  split at h
  · cases h
def hb_C31 : ab_CT
  | _ => none
theorem hb_C31_ok : ab_Cd RJ11 hb_TB vwCl hb_C31 := by
  intro ix ci fs h
  unfold hb_C31 at h
  split at h
  · cases h
def hb_I31 : Nat → Option Int32
  | 76 => some (56320)
  | 110 => some (55232)
  | _ => none
theorem hb_I31_ok : ∀ ix v, hb_I31 ix = some v → Cond.constant RJ11 ix v ∈ hb_TB := by
  intro ix v h
  unfold hb_I31 at h
  split at h
  · cases h
    exact (hb_w5 10 (by decide +kernel))
  · cases h
    exact (hb_w5 6 (by decide +kernel))
  · cases h
def hb_L31 : Nat → Option Int64
  | _ => none
theorem hb_L31_ok : ∀ ix v, hb_L31 ix = some v → Cond.constantLong RJ11 ix v ∈ hb_TB := by
  intro ix v h
  unfold hb_L31 at h
  split at h
  · cases h
def hb_T31 : Nat → Option (Nat × Nat × Nat × Nat)
  | _ => none
def hb_F33 (isI : Bool) : ab_FT
  | _ => none
theorem hb_F33_ok (isI : Bool) : ab_Fd RJ6 isI hb_TB vwCl (hb_F33 isI) := by
  intro ix ci k ty ok h
  unfold hb_F33 at h
  split at h
  · cases h
def hb_C33 : ab_CT
  | _ => none
theorem hb_C33_ok : ab_Cd RJ6 hb_TB vwCl hb_C33 := by
  intro ix ci fs h
  unfold hb_C33 at h
  split at h
  · cases h
def hb_I33 : Nat → Option Int32
  | 264 => some (65536)
  | 265 => some (1431655765)
  | 266 => some (858993459)
  | 267 => some (252645135)
  | _ => none
theorem hb_I33_ok : ∀ ix v, hb_I33 ix = some v → Cond.constant RJ6 ix v ∈ hb_TB := by
  intro ix v h
  unfold hb_I33 at h
  split at h
  · cases h
    exact (hb_w7 96 (by decide +kernel))
  · cases h
    exact (hb_w2 54 (by decide +kernel))
  · cases h
    exact (hb_w2 55 (by decide +kernel))
  · cases h
    exact (hb_w2 56 (by decide +kernel))
  · cases h
def hb_L33 : Nat → Option Int64
  | _ => none
theorem hb_L33_ok : ∀ ix v, hb_L33 ix = some v → Cond.constantLong RJ6 ix v ∈ hb_TB := by
  intro ix v h
  unfold hb_L33 at h
  split at h
  · cases h
def hb_T33 : Nat → Option (Nat × Nat × Nat × Nat)
  | _ => none
def hb_F35 (isI : Bool) : ab_FT
  | _ => none
theorem hb_F35_ok (isI : Bool) : ab_Fd RJ13 isI hb_TB vwCl (hb_F35 isI) := by
  intro ix ci k ty ok h
  unfold hb_F35 at h
  split at h
  · cases h
def hb_C35 : ab_CT
  | _ => none
theorem hb_C35_ok : ab_Cd RJ13 hb_TB vwCl hb_C35 := by
  intro ix ci fs h
  unfold hb_C35 at h
  split at h
  · cases h
def hb_I35 : Nat → Option Int32
  | _ => none
theorem hb_I35_ok : ∀ ix v, hb_I35 ix = some v → Cond.constant RJ13 ix v ∈ hb_TB := by
  intro ix v h
  unfold hb_I35 at h
  split at h
  · cases h
def hb_L35 : Nat → Option Int64
  | 314 => some (6148914691236517205)
  | 316 => some (3689348814741910323)
  | 318 => some (1085102592571150095)
  | _ => none
theorem hb_L35_ok : ∀ ix v, hb_L35 ix = some v → Cond.constantLong RJ13 ix v ∈ hb_TB := by
  intro ix v h
  unfold hb_L35 at h
  split at h
  · cases h
    exact (hb_w7 14 (by decide +kernel))
  · cases h
    exact (hb_w7 15 (by decide +kernel))
  · cases h
    exact (hb_w7 16 (by decide +kernel))
  · cases h
def hb_T35 : Nat → Option (Nat × Nat × Nat × Nat)
  | 311 => some (1, 8449, 1, 0)
  | _ => none
def hb_F37 (isI : Bool) : ab_FT
  | _ => none
theorem hb_F37_ok (isI : Bool) : ab_Fd RJ0 isI hb_TB vwCl (hb_F37 isI) := by
  intro ix ci k ty ok h
  unfold hb_F37 at h
  split at h
  · cases h
def hb_C37 : ab_CT
  | _ => none
theorem hb_C37_ok : ab_Cd RJ0 hb_TB vwCl hb_C37 := by
  intro ix ci fs h
  unfold hb_C37 at h
  split at h
  · cases h
def hb_I37 : Nat → Option Int32
  | _ => none
theorem hb_I37_ok : ∀ ix v, hb_I37 ix = some v → Cond.constant RJ0 ix v ∈ hb_TB := by
  intro ix v h
  unfold hb_I37 at h
  split at h
  · cases h
def hb_L37 : Nat → Option Int64
  | _ => none
theorem hb_L37_ok : ∀ ix v, hb_L37 ix = some v → Cond.constantLong RJ0 ix v ∈ hb_TB := by
  intro ix v h
  unfold hb_L37 at h
  split at h
  · cases h
def hb_T37 : Nat → Option (Nat × Nat × Nat × Nat)
  | 335 => some (6, 9477, 0, 0)
  | 492 => some (6, 9478, 0, 0)
  | 495 => some (1, 9728, 2, 0)
  | 498 => some (1, 9990, 2, 0)
  | 505 => some (6, 9472, 0, 0)
  | 541 => some (1, 9730, 2, 0)
  | 633 => some (6, 9476, 2, 0)
  | 637 => some (1, 9731, 4, 0)
  | 640 => some (1, 9986, 4, 0)
  | 1059 => some (1, 13056, 3, 0)
  | 1062 => some (1, 13057, 4, 0)
  | _ => none
def hb_F38 (isI : Bool) : ab_FT
  | _ => none
theorem hb_F38_ok (isI : Bool) : ab_Fd RJ1 isI hb_TB vwCl (hb_F38 isI) := by
  intro ix ci k ty ok h
  unfold hb_F38 at h
  split at h
  · cases h
def hb_C38 : ab_CT
  | _ => none
theorem hb_C38_ok : ab_Cd RJ1 hb_TB vwCl hb_C38 := by
  intro ix ci fs h
  unfold hb_C38 at h
  split at h
  · cases h
def hb_I38 : Nat → Option Int32
  | _ => none
theorem hb_I38_ok : ∀ ix v, hb_I38 ix = some v → Cond.constant RJ1 ix v ∈ hb_TB := by
  intro ix v h
  unfold hb_I38 at h
  split at h
  · cases h
def hb_L38 : Nat → Option Int64
  | _ => none
theorem hb_L38_ok : ∀ ix v, hb_L38 ix = some v → Cond.constantLong RJ1 ix v ∈ hb_TB := by
  intro ix v h
  unfold hb_L38 at h
  split at h
  · cases h
def hb_T38 : Nat → Option (Nat × Nat × Nat × Nat)
  | 9 => some (1, 9479, 2, 0)
  | 38 => some (8, 0, 0, 0)
  | 88 => some (1, 9729, 1, 0)
  | 92 => some (7, 0, 0, 0)
  | 95 => some (1, 9732, 4, 0)
  | _ => none
def hb_F39 (isI : Bool) : ab_FT
  | _ => none
theorem hb_F39_ok (isI : Bool) : ab_Fd RJ2 isI hb_TB vwCl (hb_F39 isI) := by
  intro ix ci k ty ok h
  unfold hb_F39 at h
  split at h
  · cases h
def hb_C39 : ab_CT
  | _ => none
theorem hb_C39_ok : ab_Cd RJ2 hb_TB vwCl hb_C39 := by
  intro ix ci fs h
  unfold hb_C39 at h
  split at h
  · cases h
def hb_I39 : Nat → Option Int32
  | 227 => some (65536)
  | _ => none
theorem hb_I39_ok : ∀ ix v, hb_I39 ix = some v → Cond.constant RJ2 ix v ∈ hb_TB := by
  intro ix v h
  unfold hb_I39 at h
  split at h
  · cases h
    exact (hb_w4 221 (by decide +kernel))
  · cases h
def hb_L39 : Nat → Option Int64
  | _ => none
theorem hb_L39_ok : ∀ ix v, hb_L39 ix = some v → Cond.constantLong RJ2 ix v ∈ hb_TB := by
  intro ix v h
  unfold hb_L39 at h
  split at h
  · cases h
def hb_T39 : Nat → Option (Nat × Nat × Nat × Nat)
  | 48 => some (1, 9985, 1, 0)
  | 67 => some (1, 9991, 2, 0)
  | 71 => some (1, 9984, 2, 0)
  | 96 => some (1, 9992, 3, 0)
  | 157 => some (1, 7937, 1, 0)
  | 161 => some (1, 7938, 1, 0)
  | 164 => some (1, 7936, 1, 0)
  | 183 => some (8, 0, 0, 0)
  | 224 => some (7, 0, 0, 0)
  | 228 => some (1, 9987, 4, 0)
  | 232 => some (1, 9989, 4, 0)
  | 241 => some (1, 9480, 3, 0)
  | 244 => some (1, 9988, 4, 0)
  | 414 => some (1, 9479, 2, 0)
  | _ => none
def hb_F41 (isI : Bool) : ab_FT
  | _ => none
theorem hb_F41_ok (isI : Bool) : ab_Fd RJxa1e45 isI hb_TB vwCl (hb_F41 isI) := by
  intro ix ci k ty ok h
  unfold hb_F41 at h
  split at h
  · cases h
def hb_C41 : ab_CT
  | _ => none
theorem hb_C41_ok : ab_Cd RJxa1e45 hb_TB vwCl hb_C41 := by
  intro ix ci fs h
  unfold hb_C41 at h
  split at h
  · cases h
def hb_I41 : Nat → Option Int32
  | _ => none
theorem hb_I41_ok : ∀ ix v, hb_I41 ix = some v → Cond.constant RJxa1e45 ix v ∈ hb_TB := by
  intro ix v h
  unfold hb_I41 at h
  split at h
  · cases h
def hb_L41 : Nat → Option Int64
  | _ => none
theorem hb_L41_ok : ∀ ix v, hb_L41 ix = some v → Cond.constantLong RJxa1e45 ix v ∈ hb_TB := by
  intro ix v h
  unfold hb_L41 at h
  split at h
  · cases h
def hb_T41 : Nat → Option (Nat × Nat × Nat × Nat)
  | 1 => some (4, 0, 0, 0)
  | _ => none
def hb_F42 (isI : Bool) : ab_FT
  | 7 => some (0, 0, .int, true)
  | _ => none
theorem hb_F42_ok (isI : Bool) : ab_Fd RJxc12de isI hb_TB vwCl (hb_F42 isI) := by
  intro ix ci k ty ok h
  unfold hb_F42 at h
  split at h
  · cases h
    exact ⟨RJx4a65c, TJx4a65c, 3, tyJx4a65c, rfl, by decide, hb_inJx4a65c, Or.inl (hb_w8 137 (by decide +kernel)), tyJx4a65c_ok, nmJx4a65c, rfl, fun _ => Or.inl rfl⟩
  · cases h
def hb_C42 : ab_CT
  | _ => none
theorem hb_C42_ok : ab_Cd RJxc12de hb_TB vwCl hb_C42 := by
  intro ix ci fs h
  unfold hb_C42 at h
  split at h
  · cases h
def hb_I42 : Nat → Option Int32
  | _ => none
theorem hb_I42_ok : ∀ ix v, hb_I42 ix = some v → Cond.constant RJxc12de ix v ∈ hb_TB := by
  intro ix v h
  unfold hb_I42 at h
  split at h
  · cases h
def hb_L42 : Nat → Option Int64
  | _ => none
theorem hb_L42_ok : ∀ ix v, hb_L42 ix = some v → Cond.constantLong RJxc12de ix v ∈ hb_TB := by
  intro ix v h
  unfold hb_L42 at h
  split at h
  · cases h
def hb_T42 : Nat → Option (Nat × Nat × Nat × Nat)
  | 1 => some (2, 10496, 0, 0)
  | _ => none
def hb_F43 (isI : Bool) : ab_FT
  | 9 => some (0, 1, (.array (.object "java/lang/Object")), true)
  | 48 => some (0, 2, .int, true)
  | 63 => some (0, 0, .int, true)
  | _ => none
theorem hb_F43_ok (isI : Bool) : ab_Fd RJx4a65c isI hb_TB vwCl (hb_F43 isI) := by
  intro ix ci k ty ok h
  unfold hb_F43 at h
  split at h
  · cases h
    exact ⟨RJx4a65c, TJx4a65c, 3, tyJx4a65c, rfl, by decide, hb_inJx4a65c, Or.inl (hb_w8 135 (by decide +kernel)), tyJx4a65c_ok, nmJx4a65c, rfl, fun _ => Or.inl rfl⟩
  · cases h
    exact ⟨RJx4a65c, TJx4a65c, 3, tyJx4a65c, rfl, by decide, hb_inJx4a65c, Or.inl (hb_w8 136 (by decide +kernel)), tyJx4a65c_ok, nmJx4a65c, rfl, fun _ => Or.inl rfl⟩
  · cases h
    exact ⟨RJx4a65c, TJx4a65c, 3, tyJx4a65c, rfl, by decide, hb_inJx4a65c, Or.inr ⟨RJx4a65c, (hb_w8 138 (by decide +kernel)), (hb_w8 139 (by decide +kernel))⟩, tyJx4a65c_ok, nmJx4a65c, rfl, fun _ => Or.inl rfl⟩
  · cases h
def hb_C43 : ab_CT
  | _ => none
theorem hb_C43_ok : ab_Cd RJx4a65c hb_TB vwCl hb_C43 := by
  intro ix ci fs h
  unfold hb_C43 at h
  split at h
  · cases h
def hb_I43 : Nat → Option Int32
  | _ => none
theorem hb_I43_ok : ∀ ix v, hb_I43 ix = some v → Cond.constant RJx4a65c ix v ∈ hb_TB := by
  intro ix v h
  unfold hb_I43 at h
  split at h
  · cases h
def hb_L43 : Nat → Option Int64
  | _ => none
theorem hb_L43_ok : ∀ ix v, hb_L43 ix = some v → Cond.constantLong RJx4a65c ix v ∈ hb_TB := by
  intro ix v h
  unfold hb_L43 at h
  split at h
  · cases h
def hb_T43 : Nat → Option (Nat × Nat × Nat × Nat)
  | 1 => some (2, 10752, 0, 0)
  | 66 => some (1, 11266, 2, 0)
  | 69 => some (0, 11009, 1, 0)
  | 73 => some (1, 12800, 3, 0)
  | 79 => some (7, 0, 0, 0)
  | 118 => some (1, 12032, 2, 0)
  | 123 => some (0, 11012, 1, 0)
  | 129 => some (0, 11010, 0, 0)
  | 131 => some (0, 11014, 3, 0)
  | _ => none
def hb_F44 (isI : Bool) : ab_FT
  | _ => none
theorem hb_F44_ok (isI : Bool) : ab_Fd RJ7 isI hb_TB vwCl (hb_F44 isI) := by
  intro ix ci k ty ok h
  unfold hb_F44 at h
  split at h
  · cases h
def hb_C44 : ab_CT
  | _ => none
theorem hb_C44_ok : ab_Cd RJ7 hb_TB vwCl hb_C44 := by
  intro ix ci fs h
  unfold hb_C44 at h
  split at h
  · cases h
def hb_I44 : Nat → Option Int32
  | _ => none
theorem hb_I44_ok : ∀ ix v, hb_I44 ix = some v → Cond.constant RJ7 ix v ∈ hb_TB := by
  intro ix v h
  unfold hb_I44 at h
  split at h
  · cases h
def hb_L44 : Nat → Option Int64
  | _ => none
theorem hb_L44_ok : ∀ ix v, hb_L44 ix = some v → Cond.constantLong RJ7 ix v ∈ hb_TB := by
  intro ix v h
  unfold hb_L44 at h
  split at h
  · cases h
def hb_T44 : Nat → Option (Nat × Nat × Nat × Nat)
  | 86 => some (10, 8, 0, 0)
  | 150 => some (5, 0, 0, 0)
  | 300 => some (1, 11267, 3, 0)
  | 304 => some (8, 0, 0, 0)
  | _ => none
def hb_F47 (isI : Bool) : ab_FT
  | _ => none
theorem hb_F47_ok (isI : Bool) : ab_Fd RJ15 isI hb_TB vwCl (hb_F47 isI) := by
  intro ix ci k ty ok h
  unfold hb_F47 at h
  split at h
  · cases h
def hb_C47 : ab_CT
  | _ => none
theorem hb_C47_ok : ab_Cd RJ15 hb_TB vwCl hb_C47 := by
  intro ix ci fs h
  unfold hb_C47 at h
  split at h
  · cases h
def hb_I47 : Nat → Option Int32
  | _ => none
theorem hb_I47_ok : ∀ ix v, hb_I47 ix = some v → Cond.constant RJ15 ix v ∈ hb_TB := by
  intro ix v h
  unfold hb_I47 at h
  split at h
  · cases h
def hb_L47 : Nat → Option Int64
  | _ => none
theorem hb_L47_ok : ∀ ix v, hb_L47 ix = some v → Cond.constantLong RJ15 ix v ∈ hb_TB := by
  intro ix v h
  unfold hb_L47 at h
  split at h
  · cases h
def hb_T47 : Nat → Option (Nat × Nat × Nat × Nat)
  | 105 => some (1, 13056, 3, 0)
  | _ => none
def hb_F50 (isI : Bool) : ab_FT
  | _ => none
theorem hb_F50_ok (isI : Bool) : ab_Fd RJ8 isI hb_TB vwCl (hb_F50 isI) := by
  intro ix ci k ty ok h
  unfold hb_F50 at h
  split at h
  · cases h
def hb_C50 : ab_CT
  | _ => none
theorem hb_C50_ok : ab_Cd RJ8 hb_TB vwCl hb_C50 := by
  intro ix ci fs h
  unfold hb_C50 at h
  split at h
  · cases h
def hb_I50 : Nat → Option Int32
  | 200 => some (2147483639)
  | _ => none
theorem hb_I50_ok : ∀ ix v, hb_I50 ix = some v → Cond.constant RJ8 ix v ∈ hb_TB := by
  intro ix v h
  unfold hb_I50 at h
  split at h
  · cases h
    exact (hb_w12 68 (by decide +kernel))
  · cases h
def hb_L50 : Nat → Option Int64
  | _ => none
theorem hb_L50_ok : ∀ ix v, hb_L50 ix = some v → Cond.constantLong RJ8 ix v ∈ hb_TB := by
  intro ix v h
  unfold hb_L50 at h
  split at h
  · cases h
def hb_T50 : Nat → Option (Nat × Nat × Nat × Nat)
  | 194 => some (7, 0, 0, 0)
  | 201 => some (1, 12801, 2, 0)
  | _ => none
def hb_F51 (isI : Bool) : ab_FT
  | _ => none
theorem hb_F51_ok (isI : Bool) : ab_Fd RJ3 isI hb_TB vwCl (hb_F51 isI) := by
  intro ix ci k ty ok h
  unfold hb_F51 at h
  split at h
  · cases h
def hb_C51 : ab_CT
  | _ => none
theorem hb_C51_ok : ab_Cd RJ3 hb_TB vwCl hb_C51 := by
  intro ix ci fs h
  unfold hb_C51 at h
  split at h
  · cases h
def hb_I51 : Nat → Option Int32
  | _ => none
theorem hb_I51_ok : ∀ ix v, hb_I51 ix = some v → Cond.constant RJ3 ix v ∈ hb_TB := by
  intro ix v h
  unfold hb_I51 at h
  split at h
  · cases h
def hb_L51 : Nat → Option Int64
  | _ => none
theorem hb_L51_ok : ∀ ix v, hb_L51 ix = some v → Cond.constantLong RJ3 ix v ∈ hb_TB := by
  intro ix v h
  unfold hb_L51 at h
  split at h
  · cases h
def hb_T51 : Nat → Option (Nat × Nat × Nat × Nat)
  | _ => none
def hb_F60 (isI : Bool) : ab_FT
  | _ => none
theorem hb_F60_ok (isI : Bool) : ab_Fd RZR15 isI hb_TB vwCl (hb_F60 isI) := by
  intro ix ci k ty ok h
  unfold hb_F60 at h
  split at h
  · cases h
def hb_C60 : ab_CT
  | _ => none
theorem hb_C60_ok : ab_Cd RZR15 hb_TB vwCl hb_C60 := by
  intro ix ci fs h
  unfold hb_C60 at h
  split at h
  · cases h
def hb_I60 : Nat → Option Int32
  | _ => none
theorem hb_I60_ok : ∀ ix v, hb_I60 ix = some v → Cond.constant RZR15 ix v ∈ hb_TB := by
  intro ix v h
  unfold hb_I60 at h
  split at h
  · cases h
def hb_L60 : Nat → Option Int64
  | _ => none
theorem hb_L60_ok : ∀ ix v, hb_L60 ix = some v → Cond.constantLong RZR15 ix v ∈ hb_TB := by
  intro ix v h
  unfold hb_L60 at h
  split at h
  · cases h
def hb_T60 : Nat → Option (Nat × Nat × Nat × Nat)
  | 16 => some (2, 15616, 4, 0)
  | _ => none
def hb_F61 (isI : Bool) : ab_FT
  | _ => none
theorem hb_F61_ok (isI : Bool) : ab_Fd RZE15 isI hb_TB vwCl (hb_F61 isI) := by
  intro ix ci k ty ok h
  unfold hb_F61 at h
  split at h
  · cases h
def hb_C61 : ab_CT
  | _ => none
theorem hb_C61_ok : ab_Cd RZE15 hb_TB vwCl hb_C61 := by
  intro ix ci fs h
  unfold hb_C61 at h
  split at h
  · cases h
def hb_I61 : Nat → Option Int32
  | _ => none
theorem hb_I61_ok : ∀ ix v, hb_I61 ix = some v → Cond.constant RZE15 ix v ∈ hb_TB := by
  intro ix v h
  unfold hb_I61 at h
  split at h
  · cases h
def hb_L61 : Nat → Option Int64
  | _ => none
theorem hb_L61_ok : ∀ ix v, hb_L61 ix = some v → Cond.constantLong RZE15 ix v ∈ hb_TB := by
  intro ix v h
  unfold hb_L61 at h
  split at h
  · cases h
def hb_T61 : Nat → Option (Nat × Nat × Nat × Nat)
  | 16 => some (2, 15872, 4, 0)
  | _ => none
def hb_F62 (isI : Bool) : ab_FT
  | 7 => some (16, 0, (.object "java/lang/Throwable"), true)
  | 17 => some (16, 1, (.array (.object "java/lang/StackTraceElement")), true)
  | 24 => some (16, 2, (.object "java/util/List"), true)
  | 31 => some (16, 3, (.object "java/lang/String"), true)
  | _ => none
theorem hb_F62_ok (isI : Bool) : ab_Fd RZT15 isI hb_TB vwCl (hb_F62 isI) := by
  intro ix ci k ty ok h
  unfold hb_F62 at h
  split at h
  · cases h
    exact ⟨RX15, TX15, 6, tyX15, rfl, by decide, hb_inX15, Or.inl (hb_w6 72 (by decide +kernel)), tyX15_ok, nmX15, rfl, fun _ => Or.inl rfl⟩
  · cases h
    exact ⟨RX15, TX15, 6, tyX15, rfl, by decide, hb_inX15, Or.inl (hb_w6 73 (by decide +kernel)), tyX15_ok, nmX15, rfl, fun _ => Or.inl rfl⟩
  · cases h
    exact ⟨RX15, TX15, 6, tyX15, rfl, by decide, hb_inX15, Or.inl (hb_w6 74 (by decide +kernel)), tyX15_ok, nmX15, rfl, fun _ => Or.inl rfl⟩
  · cases h
    exact ⟨RX15, TX15, 6, tyX15, rfl, by decide, hb_inX15, Or.inl (hb_w6 71 (by decide +kernel)), tyX15_ok, nmX15, rfl, fun _ => Or.inl rfl⟩
  · cases h
def hb_C62 : ab_CT
  | _ => none
theorem hb_C62_ok : ab_Cd RZT15 hb_TB vwCl hb_C62 := by
  intro ix ci fs h
  unfold hb_C62 at h
  split at h
  · cases h
def hb_I62 : Nat → Option Int32
  | _ => none
theorem hb_I62_ok : ∀ ix v, hb_I62 ix = some v → Cond.constant RZT15 ix v ∈ hb_TB := by
  intro ix v h
  unfold hb_I62 at h
  split at h
  · cases h
def hb_L62 : Nat → Option Int64
  | _ => none
theorem hb_L62_ok : ∀ ix v, hb_L62 ix = some v → Cond.constantLong RZT15 ix v ∈ hb_TB := by
  intro ix v h
  unfold hb_L62 at h
  split at h
  · cases h
def hb_T62 : Nat → Option (Nat × Nat × Nat × Nat)
  | 1 => some (4, 0, 0, 0)
  | _ => none
def hb_F63 (isI : Bool) : ab_FT
  | _ => none
theorem hb_F63_ok (isI : Bool) : ab_Fd RZR16 isI hb_TB vwCl (hb_F63 isI) := by
  intro ix ci k ty ok h
  unfold hb_F63 at h
  split at h
  · cases h
def hb_C63 : ab_CT
  | _ => none
theorem hb_C63_ok : ab_Cd RZR16 hb_TB vwCl hb_C63 := by
  intro ix ci fs h
  unfold hb_C63 at h
  split at h
  · cases h
def hb_I63 : Nat → Option Int32
  | _ => none
theorem hb_I63_ok : ∀ ix v, hb_I63 ix = some v → Cond.constant RZR16 ix v ∈ hb_TB := by
  intro ix v h
  unfold hb_I63 at h
  split at h
  · cases h
def hb_L63 : Nat → Option Int64
  | _ => none
theorem hb_L63_ok : ∀ ix v, hb_L63 ix = some v → Cond.constantLong RZR16 ix v ∈ hb_TB := by
  intro ix v h
  unfold hb_L63 at h
  split at h
  · cases h
def hb_T63 : Nat → Option (Nat × Nat × Nat × Nat)
  | 16 => some (2, 16384, 4, 0)
  | _ => none
def hb_F64 (isI : Bool) : ab_FT
  | _ => none
theorem hb_F64_ok (isI : Bool) : ab_Fd RZE16 isI hb_TB vwCl (hb_F64 isI) := by
  intro ix ci k ty ok h
  unfold hb_F64 at h
  split at h
  · cases h
def hb_C64 : ab_CT
  | _ => none
theorem hb_C64_ok : ab_Cd RZE16 hb_TB vwCl hb_C64 := by
  intro ix ci fs h
  unfold hb_C64 at h
  split at h
  · cases h
def hb_I64 : Nat → Option Int32
  | _ => none
theorem hb_I64_ok : ∀ ix v, hb_I64 ix = some v → Cond.constant RZE16 ix v ∈ hb_TB := by
  intro ix v h
  unfold hb_I64 at h
  split at h
  · cases h
def hb_L64 : Nat → Option Int64
  | _ => none
theorem hb_L64_ok : ∀ ix v, hb_L64 ix = some v → Cond.constantLong RZE16 ix v ∈ hb_TB := by
  intro ix v h
  unfold hb_L64 at h
  split at h
  · cases h
def hb_T64 : Nat → Option (Nat × Nat × Nat × Nat)
  | 16 => some (2, 16640, 4, 0)
  | _ => none
def hb_F65 (isI : Bool) : ab_FT
  | 7 => some (17, 0, (.object "java/lang/Throwable"), true)
  | 17 => some (17, 1, (.array (.object "java/lang/StackTraceElement")), true)
  | 24 => some (17, 2, (.object "java/util/List"), true)
  | 31 => some (17, 3, (.object "java/lang/String"), true)
  | _ => none
theorem hb_F65_ok (isI : Bool) : ab_Fd RZT16 isI hb_TB vwCl (hb_F65 isI) := by
  intro ix ci k ty ok h
  unfold hb_F65 at h
  split at h
  · cases h
    exact ⟨RX16, TX16, 6, tyX16, rfl, by decide, hb_inX16, Or.inl (hb_w6 72 (by decide +kernel)), tyX16_ok, nmX16, rfl, fun _ => Or.inl rfl⟩
  · cases h
    exact ⟨RX16, TX16, 6, tyX16, rfl, by decide, hb_inX16, Or.inl (hb_w6 73 (by decide +kernel)), tyX16_ok, nmX16, rfl, fun _ => Or.inl rfl⟩
  · cases h
    exact ⟨RX16, TX16, 6, tyX16, rfl, by decide, hb_inX16, Or.inl (hb_w6 74 (by decide +kernel)), tyX16_ok, nmX16, rfl, fun _ => Or.inl rfl⟩
  · cases h
    exact ⟨RX16, TX16, 6, tyX16, rfl, by decide, hb_inX16, Or.inl (hb_w6 71 (by decide +kernel)), tyX16_ok, nmX16, rfl, fun _ => Or.inl rfl⟩
  · cases h
def hb_C65 : ab_CT
  | _ => none
theorem hb_C65_ok : ab_Cd RZT16 hb_TB vwCl hb_C65 := by
  intro ix ci fs h
  unfold hb_C65 at h
  split at h
  · cases h
def hb_I65 : Nat → Option Int32
  | _ => none
theorem hb_I65_ok : ∀ ix v, hb_I65 ix = some v → Cond.constant RZT16 ix v ∈ hb_TB := by
  intro ix v h
  unfold hb_I65 at h
  split at h
  · cases h
def hb_L65 : Nat → Option Int64
  | _ => none
theorem hb_L65_ok : ∀ ix v, hb_L65 ix = some v → Cond.constantLong RZT16 ix v ∈ hb_TB := by
  intro ix v h
  unfold hb_L65 at h
  split at h
  · cases h
def hb_T65 : Nat → Option (Nat × Nat × Nat × Nat)
  | 1 => some (4, 0, 0, 0)
  | _ => none
def hb_F66 (isI : Bool) : ab_FT
  | _ => none
theorem hb_F66_ok (isI : Bool) : ab_Fd RZR22 isI hb_TB vwCl (hb_F66 isI) := by
  intro ix ci k ty ok h
  unfold hb_F66 at h
  split at h
  · cases h
def hb_C66 : ab_CT
  | _ => none
theorem hb_C66_ok : ab_Cd RZR22 hb_TB vwCl hb_C66 := by
  intro ix ci fs h
  unfold hb_C66 at h
  split at h
  · cases h
def hb_I66 : Nat → Option Int32
  | _ => none
theorem hb_I66_ok : ∀ ix v, hb_I66 ix = some v → Cond.constant RZR22 ix v ∈ hb_TB := by
  intro ix v h
  unfold hb_I66 at h
  split at h
  · cases h
def hb_L66 : Nat → Option Int64
  | _ => none
theorem hb_L66_ok : ∀ ix v, hb_L66 ix = some v → Cond.constantLong RZR22 ix v ∈ hb_TB := by
  intro ix v h
  unfold hb_L66 at h
  split at h
  · cases h
def hb_T66 : Nat → Option (Nat × Nat × Nat × Nat)
  | 16 => some (2, 17152, 4, 0)
  | _ => none
def hb_F67 (isI : Bool) : ab_FT
  | _ => none
theorem hb_F67_ok (isI : Bool) : ab_Fd RZE22 isI hb_TB vwCl (hb_F67 isI) := by
  intro ix ci k ty ok h
  unfold hb_F67 at h
  split at h
  · cases h
def hb_C67 : ab_CT
  | _ => none
theorem hb_C67_ok : ab_Cd RZE22 hb_TB vwCl hb_C67 := by
  intro ix ci fs h
  unfold hb_C67 at h
  split at h
  · cases h
def hb_I67 : Nat → Option Int32
  | _ => none
theorem hb_I67_ok : ∀ ix v, hb_I67 ix = some v → Cond.constant RZE22 ix v ∈ hb_TB := by
  intro ix v h
  unfold hb_I67 at h
  split at h
  · cases h
def hb_L67 : Nat → Option Int64
  | _ => none
theorem hb_L67_ok : ∀ ix v, hb_L67 ix = some v → Cond.constantLong RZE22 ix v ∈ hb_TB := by
  intro ix v h
  unfold hb_L67 at h
  split at h
  · cases h
def hb_T67 : Nat → Option (Nat × Nat × Nat × Nat)
  | 16 => some (2, 17408, 4, 0)
  | _ => none
def hb_F68 (isI : Bool) : ab_FT
  | 7 => some (23, 0, (.object "java/lang/Throwable"), true)
  | 17 => some (23, 1, (.array (.object "java/lang/StackTraceElement")), true)
  | 24 => some (23, 2, (.object "java/util/List"), true)
  | 31 => some (23, 3, (.object "java/lang/String"), true)
  | _ => none
theorem hb_F68_ok (isI : Bool) : ab_Fd RZT22 isI hb_TB vwCl (hb_F68 isI) := by
  intro ix ci k ty ok h
  unfold hb_F68 at h
  split at h
  · cases h
    exact ⟨RX22, TX22, 7, tyX22, rfl, by decide, hb_inX22, Or.inl (hb_w6 72 (by decide +kernel)), tyX22_ok, nmX22, rfl, fun _ => Or.inl rfl⟩
  · cases h
    exact ⟨RX22, TX22, 7, tyX22, rfl, by decide, hb_inX22, Or.inl (hb_w6 73 (by decide +kernel)), tyX22_ok, nmX22, rfl, fun _ => Or.inl rfl⟩
  · cases h
    exact ⟨RX22, TX22, 7, tyX22, rfl, by decide, hb_inX22, Or.inl (hb_w6 74 (by decide +kernel)), tyX22_ok, nmX22, rfl, fun _ => Or.inl rfl⟩
  · cases h
    exact ⟨RX22, TX22, 7, tyX22, rfl, by decide, hb_inX22, Or.inl (hb_w6 71 (by decide +kernel)), tyX22_ok, nmX22, rfl, fun _ => Or.inl rfl⟩
  · cases h
def hb_C68 : ab_CT
  | _ => none
theorem hb_C68_ok : ab_Cd RZT22 hb_TB vwCl hb_C68 := by
  intro ix ci fs h
  unfold hb_C68 at h
  split at h
  · cases h
def hb_I68 : Nat → Option Int32
  | _ => none
theorem hb_I68_ok : ∀ ix v, hb_I68 ix = some v → Cond.constant RZT22 ix v ∈ hb_TB := by
  intro ix v h
  unfold hb_I68 at h
  split at h
  · cases h
def hb_L68 : Nat → Option Int64
  | _ => none
theorem hb_L68_ok : ∀ ix v, hb_L68 ix = some v → Cond.constantLong RZT22 ix v ∈ hb_TB := by
  intro ix v h
  unfold hb_L68 at h
  split at h
  · cases h
def hb_T68 : Nat → Option (Nat × Nat × Nat × Nat)
  | 1 => some (4, 0, 0, 0)
  | _ => none
def hb_F52 (isI : Bool) : ab_FT
  | _ => none
theorem hb_F52_ok (isI : Bool) : ab_Fd RL isI hb_TB vwCl (hb_F52 isI) := by
  intro ix ci k ty ok h
  unfold hb_F52 at h
  split at h
  · cases h
def hb_C52 : ab_CT
  | 8 => some (13, [.null, .null, .null, .null, .null, .null, .null, .null, .null, .int 0, .int 0, .int 0, .int 0, .int 0])
  | 66 => some (24, [.null, .null, .null, .null, .int 0, .int 0, .int 0, .int 0, .null, .null, .null, .null, .null, .null, .null, .int 0, .int 0, .int 0, .int 0, .int 0, .int 0, .int 0, .int 0, .int 0, .int 0, .null, .int 0, .int 0, .null, .null, .null, .null, .int 0, .int 0, .null, .null, .null, .null, .null, .null, .null, .int 0, .null, .null, .null, .null, .null, .int 0, .int 0, .null, .int 0, .null, .null, .int 0, .int 0, .null, .null, .null, .null, .null, .null, .null, .null, .null, .long 0, .long 0, .long 0, .long 0, .long 0, .null, .int 0, .null, .null, .int 0, .int 0, .int 0, .null, .null, .long 0, .int 0, .int 0, .int 0, .int 0, .int 0, .int 0, .int 0, .int 0, .int 0, .null, .null, .null, .null, .null, .null, .null, .null, .int 0, .long 0, .int 0, .null, .null, .null, .int 0, .null, .null, .null, .int 0, .int 0, .int 0, .null, .int 0, .int 0, .int 0, .null, .null])
  | _ => none
theorem hb_C52_ok : ab_Cd RL hb_TB vwCl hb_C52 := by
  intro ix ci fs h
  unfold hb_C52 at h
  split at h
  · cases h
    exact ⟨RX12, TX12, 14, tyX12, rfl, hb_inX12, tyX12_ok, (hb_w1 46 (by decide +kernel)), (hb_w1 47 (by decide +kernel)), (hb_w1 1 (by decide +kernel)), by decide +kernel, rfl, fun _ => rfl⟩
  · cases h
    exact ⟨RX23, TX23, 115, tyX23, rfl, hb_inX23, tyX23_ok, (hb_w8 101 (by decide +kernel)), (hb_w8 102 (by decide +kernel)), (hb_w1 20 (by decide +kernel)), by decide +kernel, rfl, fun _ => rfl⟩
  · cases h
def hb_I52 : Nat → Option Int32
  | _ => none
theorem hb_I52_ok : ∀ ix v, hb_I52 ix = some v → Cond.constant RL ix v ∈ hb_TB := by
  intro ix v h
  unfold hb_I52 at h
  split at h
  · cases h
def hb_L52 : Nat → Option Int64
  | _ => none
theorem hb_L52_ok : ∀ ix v, hb_L52 ix = some v → Cond.constantLong RL ix v ∈ hb_TB := by
  intro ix v h
  unfold hb_L52 at h
  split at h
  · cases h
def hb_T52 : Nat → Option (Nat × Nat × Nat × Nat)
  | 7 => some (0, 3073, 5, 13)
  | 15 => some (0, 3075, 1, 13)
  | 21 => some (0, 3079, 1, 13)
  | 25 => some (0, 3080, 2, 13)
  | 29 => some (0, 3081, 1, 13)
  | 32 => some (0, 3082, 2, 13)
  | 36 => some (0, 3083, 3, 13)
  | 40 => some (0, 3084, 5, 13)
  | 43 => some (0, 3085, 2, 13)
  | 46 => some (0, 3086, 0, 13)
  | 52 => some (0, 3087, 1, 13)
  | 55 => some (0, 3088, 1, 13)
  | 58 => some (0, 3089, 0, 13)
  | 61 => some (0, 3090, 1, 13)
  | 65 => some (2, 3072, 0, 0)
  | 68 => some (2, 5989, 0, 0)
  | 69 => some (1, 13512, 7, 0)
  | 74 => some (0, 5994, 5, 24)
  | 75 => some (0, 5992, 0, 24)
  | 78 => some (1, 13513, 3, 0)
  | 81 => some (0, 5996, 1, 24)
  | 82 => some (0, 3076, 0, 13)
  | 85 => some (0, 6092, 0, 24)
  | 86 => some (0, 3077, 0, 13)
  | 89 => some (0, 6093, 0, 24)
  | 90 => some (0, 3078, 0, 13)
  | 93 => some (0, 5997, 0, 24)
  | 94 => some (1, 13514, 3, 0)
  | 96 => some (0, 5998, 1, 24)
  | 97 => some (1, 13515, 4, 0)
  | 100 => some (0, 5999, 2, 24)
  | 101 => some (1, 13516, 3, 0)
  | 103 => some (0, 6000, 1, 24)
  | 104 => some (1, 13517, 4, 0)
  | 106 => some (0, 6002, 2, 24)
  | 107 => some (1, 13518, 5, 0)
  | 110 => some (0, 6003, 3, 24)
  | 111 => some (1, 13519, 7, 0)
  | 113 => some (0, 6004, 5, 24)
  | 114 => some (1, 13520, 4, 0)
  | 116 => some (0, 6005, 2, 24)
  | 117 => some (1, 13521, 2, 0)
  | 120 => some (0, 6006, 0, 24)
  | 121 => some (1, 13522, 3, 0)
  | 123 => some (0, 6007, 1, 24)
  | 124 => some (1, 13523, 3, 0)
  | 126 => some (0, 6008, 1, 24)
  | 127 => some (1, 13524, 2, 0)
  | 129 => some (0, 6009, 0, 24)
  | 130 => some (1, 13525, 3, 0)
  | 132 => some (0, 6010, 1, 24)
  | _ => none

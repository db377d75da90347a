/-! what was there before: z is what is known of what Preconditions.SIOOBE_FORMATTER, Throwable.UNASSIGNED_STACK, Throwable.SUPPRESSED_SENTINEL hold (null, or the things of number 4, 5, 6); x: one more array (number 9, the script) -/
def hb_Xs (z : Option Value × Option Value × Option Value) : Nat → Nat → Option Value
  | 3, 94 => some (.retAddr 3)
  | 7, 237 => some (.retAddr 2)
  | 11, 108 => some (.retAddr 1)
  | 11, 101 => some (.retAddr 0)
  | 37, 38 => some (.int 1)
  | 37, 1053 => z.1
  | 43, 39 => some (.retAddr 7)
  | 62, 13 => z.2.1
  | 62, 20 => z.2.2
  | 65, 13 => z.2.1
  | 65, 20 => z.2.2
  | 68, 13 => z.2.1
  | 68, 20 => z.2.2
  | _, _ => none
def hb_Xf : Nat → Nat → Option Nat
  | 37, 9 => some 0
  | 37, 15 => some 1
  | _, _ => none
def hb_Xo (j f : Nat) : Option Value := if 100 ≤ j ∧ j < 186 ∧ j % 2 = 0 then (match f with
  | 0 => some (.retAddr (j + 1))
  | 1 => some (.int 0)
  | _ => none) else none
def hb_Xa (x : Option (Nat × Nat × (Nat → Value))) : Nat → Option (Nat × Nat × (Nat → Value))
  | 0 => some (0, 4, fun i => .int (([0, 24, 48, 56] : List Int32).getD i 0))
  | 1 => some (0, 4, fun i => .int (([24, 24, 8, 16] : List Int32).getD i 0))
  | 2 => some (1, 6, fun i => .long (([-6148914691236517206, -3689348814741910324, -1085102592571150096, -71777214294589696, -281470681808896, -4294967296] : List Int64).getD i 0))
  | 3 => some (0, 18, fun i => .int (([0, 1, 2, 0, 2, 1, 1, 0, 2, 1, 2, 0, 2, 0, 1, 2, 1, 0] : List Int32).getD i 0))
  | 7 => some (4, 0, fun _ => .null)
  | 9 => x
  | 101 => some (2, 3, fun i => .int (([65, 110, 121] : List Int32).getD i 0))
  | 103 => some (2, 3, fun i => .int (([73, 110, 116] : List Int32).getD i 0))
  | 105 => some (2, 5, fun i => .int (([70, 97, 117, 108, 116] : List Int32).getD i 0))
  | 107 => some (2, 158, fun i => .int (([107, 105, 110, 100, 32, 98, 97, 114, 101, 32, 99, 97, 108, 108, 32, 108, 97, 121, 101, 114, 32, 109, 101, 116, 104, 111, 100, 32, 97, 114, 111, 117, 110, 100, 32, 98, 101, 102, 111, 114, 101, 32, 98, 101, 104, 105, 110, 100, 32, 105, 110, 32, 105, 102, 32, 97, 110, 100, 32, 111, 114, 32, 110, 111, 116, 32, 105, 115, 32, 98, 101, 115, 116, 32, 115, 117, 109, 32, 97, 108, 108, 32, 97, 110, 121, 32, 108, 101, 97, 115, 116, 32, 108, 101, 102, 116, 32, 101, 97, 99, 104, 32, 110, 101, 97, 114, 32, 108, 101, 116, 32, 116, 104, 101, 110, 32, 101, 108, 115, 101, 32, 119, 105, 116, 104, 32, 119, 105, 116, 104, 111, 117, 116, 32, 100, 111, 32, 116, 114, 121, 32, 111, 110, 32, 102, 97, 105, 108, 32, 115, 104, 111, 119, 32, 110, 101, 120, 116] : List Int32).getD i 0))
  | 109 => some (2, 12, fun i => .int (([40, 41, 44, 59, 58, 43, 45, 42, 47, 35, 61, 60] : List Int32).getD i 0))
  | 111 => some (2, 0, fun i => .int (([] : List Int32).getD i 0))
  | 113 => some (2, 3, fun i => .int (([65, 110, 121] : List Int32).getD i 0))
  | 115 => some (2, 3, fun i => .int (([73, 110, 116] : List Int32).getD i 0))
  | 117 => some (2, 5, fun i => .int (([70, 97, 117, 108, 116] : List Int32).getD i 0))
  | 119 => some (2, 6, fun i => .int (([97, 114, 111, 117, 110, 100] : List Int32).getD i 0))
  | 121 => some (2, 3, fun i => .int (([97, 110, 100] : List Int32).getD i 0))
  | 123 => some (2, 3, fun i => .int (([97, 108, 108] : List Int32).getD i 0))
  | 125 => some (2, 3, fun i => .int (([97, 110, 121] : List Int32).getD i 0))
  | 127 => some (2, 4, fun i => .int (([98, 97, 114, 101] : List Int32).getD i 0))
  | 129 => some (2, 6, fun i => .int (([98, 101, 102, 111, 114, 101] : List Int32).getD i 0))
  | 131 => some (2, 6, fun i => .int (([98, 101, 104, 105, 110, 100] : List Int32).getD i 0))
  | 133 => some (2, 4, fun i => .int (([98, 101, 115, 116] : List Int32).getD i 0))
  | 135 => some (2, 4, fun i => .int (([99, 97, 108, 108] : List Int32).getD i 0))
  | 137 => some (2, 2, fun i => .int (([100, 111] : List Int32).getD i 0))
  | 139 => some (2, 4, fun i => .int (([101, 97, 99, 104] : List Int32).getD i 0))
  | 141 => some (2, 4, fun i => .int (([101, 108, 115, 101] : List Int32).getD i 0))
  | 143 => some (2, 4, fun i => .int (([102, 97, 105, 108] : List Int32).getD i 0))
  | 145 => some (2, 2, fun i => .int (([105, 110] : List Int32).getD i 0))
  | 147 => some (2, 2, fun i => .int (([105, 102] : List Int32).getD i 0))
  | 149 => some (2, 2, fun i => .int (([105, 115] : List Int32).getD i 0))
  | 151 => some (2, 4, fun i => .int (([107, 105, 110, 100] : List Int32).getD i 0))
  | 153 => some (2, 5, fun i => .int (([108, 97, 121, 101, 114] : List Int32).getD i 0))
  | 155 => some (2, 5, fun i => .int (([108, 101, 97, 115, 116] : List Int32).getD i 0))
  | 157 => some (2, 4, fun i => .int (([108, 101, 102, 116] : List Int32).getD i 0))
  | 159 => some (2, 3, fun i => .int (([108, 101, 116] : List Int32).getD i 0))
  | 161 => some (2, 6, fun i => .int (([109, 101, 116, 104, 111, 100] : List Int32).getD i 0))
  | 163 => some (2, 3, fun i => .int (([110, 111, 116] : List Int32).getD i 0))
  | 165 => some (2, 4, fun i => .int (([110, 101, 97, 114] : List Int32).getD i 0))
  | 167 => some (2, 4, fun i => .int (([110, 101, 120, 116] : List Int32).getD i 0))
  | 169 => some (2, 2, fun i => .int (([111, 114] : List Int32).getD i 0))
  | 171 => some (2, 2, fun i => .int (([111, 110] : List Int32).getD i 0))
  | 173 => some (2, 3, fun i => .int (([115, 117, 109] : List Int32).getD i 0))
  | 175 => some (2, 4, fun i => .int (([115, 104, 111, 119] : List Int32).getD i 0))
  | 177 => some (2, 4, fun i => .int (([116, 104, 101, 110] : List Int32).getD i 0))
  | 179 => some (2, 3, fun i => .int (([116, 114, 121] : List Int32).getD i 0))
  | 181 => some (2, 4, fun i => .int (([119, 105, 116, 104] : List Int32).getD i 0))
  | 183 => some (2, 7, fun i => .int (([119, 105, 116, 104, 111, 117, 116] : List Int32).getD i 0))
  | 185 => some (2, 12, fun i => .int (([40, 41, 44, 59, 58, 61, 60, 43, 45, 42, 47, 35] : List Int32).getD i 0))
  | _ => none
def hb_Xk : Nat → Nat → Option Nat
  | 11, 74 => some 100
  | 11, 86 => some 102
  | 11, 88 => some 104
  | 8, 84 => some 106
  | 8, 69 => some 108
  | 23, 961 => some 110
  | 23, 985 => some 112
  | 23, 991 => some 114
  | 23, 993 => some 116
  | 23, 108 => some 118
  | 23, 114 => some 120
  | 23, 116 => some 122
  | 23, 118 => some 124
  | 23, 120 => some 126
  | 23, 122 => some 128
  | 23, 124 => some 130
  | 23, 126 => some 132
  | 23, 128 => some 134
  | 23, 130 => some 136
  | 23, 132 => some 138
  | 23, 134 => some 140
  | 23, 136 => some 142
  | 23, 138 => some 144
  | 23, 140 => some 146
  | 23, 142 => some 148
  | 23, 143 => some 150
  | 23, 145 => some 152
  | 23, 147 => some 154
  | 23, 149 => some 156
  | 23, 151 => some 158
  | 23, 153 => some 160
  | 23, 155 => some 162
  | 23, 157 => some 164
  | 23, 159 => some 166
  | 23, 161 => some 168
  | 23, 163 => some 170
  | 23, 165 => some 172
  | 23, 167 => some 174
  | 23, 169 => some 176
  | 23, 171 => some 178
  | 23, 173 => some 180
  | 23, 175 => some 182
  | 23, 218 => some 184
  | 44, 110 => some 8
  | _, _ => none
def hb_Xt (j : Nat) : Bool := decide (100 ≤ j ∧ j < 186 ∧ j % 2 = 0)
def hb_O : Nat → Option FieldType
  | 0 => some (.object "DispatchHouseModel$Kind")
  | 1 => some (.object "DispatchHouseModel$Call")
  | 2 => some (.object "DispatchHouseModel$Method")
  | 3 => some (.object "DispatchHouseModel$Name")
  | 4 => some (.array .int)
  | 5 => some (.array (.array (.array .long)))
  | 6 => some (.array (.array .long))
  | 7 => some (.array .long)
  | 8 => some (.array .boolean)
  | 9 => some (.object "DispatchHouseModel$Choice")
  | 10 => some (.object "java/lang/Object")
  | _ => none
def hb_xA : Nat → Nat → Option Nat
  | 44, 2 => some 14
  | 43, 7 => some 14
  | 23, 8 => some 7
  | 23, 22 => some 4
  | 23, 39 => some 5
  | 23, 324 => some 6
  | 23, 721 => some 13
  | _, _ => none
def hb_xM : Nat → Nat → Option (List Nat)
  | 14, 9 => some [8, 0]
  | 17, 22 => some [8, 0]
  | 23, 960 => some [8, 0]
  | 23, 966 => some [9, 10, 11, 1]
  | 23, 967 => some [12, 3]
  | 23, 968 => some [11, 1]
  | _, _ => none
def hb_xF (ci k : Nat) : Bool := decide (ci = 21 ∧ k = 14)
def hb_xC (o ix ci : Nat) : Bool := decide ((o, ix, ci) ∈ ([(21, 24, 21)] : List (Nat × Nat × Nat)))
def hb_xS (o ix : Nat) : Bool := decide ((o, ix) ∈ ([(37, 10)] : List (Nat × Nat)))
def hb_xO (j : Nat) : Bool := decide (j < 4 ∨ j = 7 ∨ j = 9 ∨ 100 ≤ j ∧ j < 186)
def hb_xD (i j : Nat) : Bool := decide ((i = 110 ∨ 118 ≤ i ∧ i < 186 ∧ i % 2 = 0) ∧ (j = 110 ∨ 118 ≤ j ∧ j < 186 ∧ j % 2 = 0) ∧ i ≠ j)
abbrev hb_Xz (z : Option Value × Option Value × Option Value) (x : Option (Nat × Nat × (Nat → Value))) : ab_X := (hb_Xs z, hb_Xf, hb_Xo, hb_Xa x, hb_Xk, hb_Xt, hb_xA, hb_xM, hb_xF, hb_xC, hb_xS, hb_xO, hb_xD)
abbrev hb_Gz (z : Option Value × Option Value × Option Value) (x : Option (Nat × Nat × (Nat → Value))) : ab_G := hb_Gx hb_O (hb_Xz z x)
abbrev hb_G (z : Value) : ab_G := hb_Gz (some z, none, none) none

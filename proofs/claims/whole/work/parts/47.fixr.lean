/-! THE REFERENCE: shapes and references that stay -/
def sh0R : List Sh := List.flatten [
  [Sh.obj 24, Sh.arr 4 24, Sh.arr 5 24, Sh.arr 6 121, Sh.arr 7 8, Sh.obj 22, Sh.obj 0, Sh.obj 22, Sh.obj 0, Sh.arr 8 25],
  List.replicate 25 (Sh.arr 0 24),
  [Sh.arr 0 25, Sh.arr 0 25, Sh.arr 2 8192, Sh.obj 18, Sh.obj 20, Sh.arr 2 16, Sh.arr 0 24, Sh.arr 8 3, Sh.arr 0 24, Sh.arr 0 24, Sh.arr 0 24, Sh.arr 0 3, Sh.obj 14, Sh.obj 20, Sh.arr 2 16, Sh.obj 19, Sh.arr 0 3, Sh.arr 0 3, Sh.arr 3 3, Sh.arr 0 64, Sh.arr 9 24],
  (List.replicate 24 [Sh.arr 10 3, Sh.arr 11 24, Sh.arr 1 2, Sh.arr 1 2, Sh.arr 1 2, Sh.arr 1 2, Sh.arr 1 2, Sh.arr 1 2, Sh.arr 1 2, Sh.arr 1 2, Sh.arr 1 2, Sh.arr 1 2, Sh.arr 1 2, Sh.arr 1 2, Sh.arr 1 2, Sh.arr 1 2, Sh.arr 1 2, Sh.arr 1 2, Sh.arr 1 2, Sh.arr 1 2, Sh.arr 1 2, Sh.arr 1 2, Sh.arr 1 2, Sh.arr 1 2, Sh.arr 1 2, Sh.arr 1 2, Sh.arr 11 24, Sh.arr 1 2, Sh.arr 1 2, Sh.arr 1 2, Sh.arr 1 2, Sh.arr 1 2, Sh.arr 1 2, Sh.arr 1 2, Sh.arr 1 2, Sh.arr 1 2, Sh.arr 1 2, Sh.arr 1 2, Sh.arr 1 2, Sh.arr 1 2, Sh.arr 1 2, Sh.arr 1 2, Sh.arr 1 2, Sh.arr 1 2, Sh.arr 1 2, Sh.arr 1 2, Sh.arr 1 2, Sh.arr 1 2, Sh.arr 1 2, Sh.arr 1 2, Sh.arr 1 2, Sh.arr 11 24, Sh.arr 1 2, Sh.arr 1 2, Sh.arr 1 2, Sh.arr 1 2, Sh.arr 1 2, Sh.arr 1 2, Sh.arr 1 2, Sh.arr 1 2, Sh.arr 1 2, Sh.arr 1 2, Sh.arr 1 2, Sh.arr 1 2, Sh.arr 1 2, Sh.arr 1 2, Sh.arr 1 2, Sh.arr 1 2, Sh.arr 1 2, Sh.arr 1 2, Sh.arr 1 2, Sh.arr 1 2, Sh.arr 1 2, Sh.arr 1 2, Sh.arr 1 2, Sh.arr 1 2]).flatten,
  [Sh.arr 12 24],
  List.replicate 24 (Sh.arr 3 24),
  [Sh.arr 11 24],
  List.replicate 24 (Sh.arr 1 2),
  [Sh.arr 0 24, Sh.arr 0 24, Sh.arr 0 24, Sh.arr 0 128, Sh.arr 0 128, Sh.arr 0 128, Sh.arr 1 128, Sh.arr 11 129],
  List.replicate 129 (Sh.arr 1 16),
  [Sh.arr 0 8, Sh.arr 3 256, Sh.arr 0 8192, Sh.arr 2 8192, Sh.arr 11 24],
  List.replicate 24 (Sh.arr 1 3),
  [Sh.arr 11 24],
  List.replicate 24 (Sh.arr 1 3),
  [Sh.arr 8 3, Sh.arr 0 24, Sh.arr 0 24, Sh.arr 0 24, Sh.arr 0 3, Sh.arr 1 65536, Sh.arr 1 65536, Sh.arr 3 65536, Sh.arr 13 48, Sh.arr 0 120, Sh.arr 0 120, Sh.obj 17, Sh.obj 16, Sh.arr 0 512, Sh.arr 0 512, Sh.arr 11 42],
  List.replicate 42 (Sh.arr 1 16),
  [Sh.arr 6 42, Sh.arr 13 42, Sh.arr 0 42],
  List.replicate 4 (Sh.arr 0 3),
  [Sh.arr 0 120, Sh.arr 0 120, Sh.arr 0 3, Sh.arr 0 120, Sh.arr 3 256, Sh.arr 2 1024],
  (List.replicate 24 [Sh.arr 0 3, Sh.obj 18, Sh.obj 20, Sh.arr 2 16, Sh.arr 0 24, Sh.arr 8 3, Sh.arr 0 24, Sh.arr 0 24, Sh.arr 0 24]).flatten,
  [Sh.arr 0 3],
  (List.replicate 24 [Sh.obj 14, Sh.obj 20, Sh.arr 2 16]).flatten,
  (List.replicate 8 [Sh.obj 20, Sh.arr 2 16]).flatten,
  (List.replicate 121 [Sh.obj 19, Sh.arr 0 3, Sh.arr 0 3, Sh.arr 3 3]).flatten,
  (List.replicate 48 [Sh.obj 15, Sh.arr 8 4, Sh.arr 0 120, Sh.arr 0 120, Sh.arr 0 120, Sh.arr 0 120, Sh.arr 0 4, Sh.arr 3 4]).flatten]
def cstR (a k : Nat) : Bool := match sh0R[a]? with
  | some (.inl 24) => [0, 1, 2, 3, 8, 9, 11, 12, 13, 14, 28, 29, 30, 31, 35, 36, 37, 38, 39, 40, 42, 43, 44, 45, 46, 49, 52, 55, 56, 57, 58, 59, 60, 61, 62, 63, 69, 71, 72, 76, 77, 88, 89, 90, 91, 92, 93, 94, 95, 99, 100, 101, 103, 104, 105, 109, 113, 114].contains k
  | some (.inl 18) => [0, 2, 4, 5].contains k
  | some (.inl 20) => [0].contains k
  | some (.inl 14) => [0].contains k
  | some (.inl 19) => [5, 6, 7].contains k
  | some (.inl 15) => [1, 2, 3].contains k
  | some (.inl 22) => [0].contains k
  | some (.inr (.inl (t, n))) => Nat.ble 4 t && !(n == 42 && (t == 6 || t == 13))
  | _ => false
def r0M : Nat → Rf
  | 0 => Rf.ptr 1
  | 1 => Rf.ptr 2
  | 2 => Rf.ptr 3
  | 3 => Rf.ptr 4
  | 8 => Rf.ptr 5
  | 9 => Rf.ptr 7
  | 11 => Rf.ptr 9
  | 12 => Rf.ptr 35
  | 13 => Rf.ptr 36
  | 14 => Rf.ptr 37
  | 28 => Rf.ptr 38
  | 29 => Rf.ptr 47
  | 30 => Rf.ptr 50
  | 31 => Rf.ptr 54
  | 35 => Rf.ptr 55
  | 36 => Rf.ptr 1880
  | 37 => Rf.ptr 1905
  | 38 => Rf.ptr 1930
  | 39 => Rf.ptr 1931
  | 40 => Rf.ptr 1932
  | 42 => Rf.ptr 1933
  | 43 => Rf.ptr 1934
  | 44 => Rf.ptr 1935
  | 45 => Rf.ptr 1936
  | 46 => Rf.ptr 1937
  | 49 => Rf.ptr 2067
  | 52 => Rf.ptr 2068
  | 55 => Rf.ptr 2069
  | 56 => Rf.ptr 2070
  | 57 => Rf.ptr 2071
  | 58 => Rf.ptr 2096
  | 59 => Rf.ptr 2121
  | 60 => Rf.ptr 2125
  | 61 => Rf.ptr 2126
  | 62 => Rf.ptr 2127
  | 63 => Rf.ptr 2128
  | 69 => Rf.ptr 2129
  | 71 => Rf.ptr 2130
  | 72 => Rf.ptr 2131
  | 76 => Rf.ptr 2132
  | 77 => Rf.ptr 2133
  | 88 => Rf.ptr 2134
  | 89 => Rf.ptr 2135
  | 90 => Rf.ptr 2136
  | 91 => Rf.ptr 2179
  | 92 => Rf.ptr 2180
  | 93 => Rf.ptr 2181
  | 94 => Rf.ptr 2182
  | 95 => Rf.ptr 2183
  | 99 => Rf.ptr 2184
  | 100 => Rf.ptr 2185
  | 101 => Rf.ptr 2186
  | 103 => Rf.ptr 2187
  | 104 => Rf.ptr 2188
  | 105 => Rf.ptr 2189
  | 109 => Rf.ptr 2190
  | 113 => Rf.ptr 2191
  | 114 => Rf.ptr 2192
  | _ => Rf.nul
def r0A (a k : Nat) : Nat → Rf
  | 4 => Rf.ptr (2193 + 9 * k)
  | 5 => Rf.ptr (2409 + 3 * k)
  | 6 => Rf.ptr (2497 + 4 * k)
  | 7 => Rf.ptr (2481 + 2 * k)
  | 13 => Rf.ptr (2981 + 8 * k)
  | 8 => Rf.ptr (a + 1 + k)
  | 11 => Rf.ptr (a + 1 + k)
  | 12 => Rf.ptr (a + 1 + k)
  | 9 => Rf.ptr (a + 1 + 76 * k)
  | 10 => Rf.ptr (a + 1 + 25 * k)
  | _ => Rf.nul
def r0R (a k : Nat) : Rf := match sh0R[a]? with
  | some (.inl 24) => r0M k
  | some (.inl 18) => (match k with | 0 => Rf.ptr (a + 1) | 2 => Rf.ptr (a + 3) | 4 => Rf.ptr (a + 4) | 5 => Rf.ptr (a + 8) | _ => Rf.nul)
  | some (.inl 20) => (match k with | 0 => Rf.ptr (a + 1) | _ => Rf.nul)
  | some (.inl 14) => (match k with | 0 => Rf.ptr (a + 1) | _ => Rf.nul)
  | some (.inl 19) => (match k with | 5 => Rf.ptr (a + 1) | 6 => Rf.ptr (a + 2) | 7 => Rf.ptr (a + 3) | _ => Rf.nul)
  | some (.inl 15) => (match k with | 1 => Rf.ptr (a + 1) | 2 => Rf.ptr (a + 6) | 3 => Rf.ptr (a + 7) | _ => Rf.nul)
  | some (.inl 22) => (match k with | 0 => Rf.ptr (a + 1) | _ => Rf.nul)
  | some (.inr (.inl (t, n))) => r0A a k t
  | _ => Rf.nul
abbrev ΦR : Fix := (sh0R, cstR, r0R)
theorem s0_0 : sh0R[0]? = some (Sh.obj 24) := by decide +kernel
theorem s0_1 : sh0R[1]? = some (Sh.arr 4 24) := by decide +kernel
theorem s0_2 : sh0R[2]? = some (Sh.arr 5 24) := by decide +kernel
theorem s0_3 : sh0R[3]? = some (Sh.arr 6 121) := by decide +kernel
theorem s0_4 : sh0R[4]? = some (Sh.arr 7 8) := by decide +kernel
theorem s0_5 : sh0R[5]? = some (Sh.obj 22) := by decide +kernel
theorem s0_6 : sh0R[6]? = some (Sh.obj 0) := by decide +kernel
theorem s0_7 : sh0R[7]? = some (Sh.obj 22) := by decide +kernel
theorem s0_8 : sh0R[8]? = some (Sh.obj 0) := by decide +kernel
theorem s0_9 : sh0R[9]? = some (Sh.arr 8 25) := by decide +kernel
theorem s0_35 : sh0R[35]? = some (Sh.arr 0 25) := by decide +kernel
theorem s0_36 : sh0R[36]? = some (Sh.arr 0 25) := by decide +kernel
theorem s0_37 : sh0R[37]? = some (Sh.arr 2 8192) := by decide +kernel
theorem s0_38 : sh0R[38]? = some (Sh.obj 18) := by decide +kernel
theorem s0_39 : sh0R[39]? = some (Sh.obj 20) := by decide +kernel
theorem s0_41 : sh0R[41]? = some (Sh.arr 0 24) := by decide +kernel
theorem s0_42 : sh0R[42]? = some (Sh.arr 8 3) := by decide +kernel
theorem s0_46 : sh0R[46]? = some (Sh.arr 0 3) := by decide +kernel
theorem s0_47 : sh0R[47]? = some (Sh.obj 14) := by decide +kernel
theorem s0_48 : sh0R[48]? = some (Sh.obj 20) := by decide +kernel
theorem s0_50 : sh0R[50]? = some (Sh.obj 19) := by decide +kernel
theorem s0_51 : sh0R[51]? = some (Sh.arr 0 3) := by decide +kernel
theorem s0_52 : sh0R[52]? = some (Sh.arr 0 3) := by decide +kernel
theorem s0_53 : sh0R[53]? = some (Sh.arr 3 3) := by decide +kernel
theorem s0_54 : sh0R[54]? = some (Sh.arr 0 64) := by decide +kernel
theorem s0_55 : sh0R[55]? = some (Sh.arr 9 24) := by decide +kernel
theorem s0_1880 : sh0R[1880]? = some (Sh.arr 12 24) := by decide +kernel
theorem s0_1905 : sh0R[1905]? = some (Sh.arr 11 24) := by decide +kernel
theorem s0_1930 : sh0R[1930]? = some (Sh.arr 0 24) := by decide +kernel
theorem s0_1931 : sh0R[1931]? = some (Sh.arr 0 24) := by decide +kernel
theorem s0_1932 : sh0R[1932]? = some (Sh.arr 0 24) := by decide +kernel
theorem s0_1933 : sh0R[1933]? = some (Sh.arr 0 128) := by decide +kernel
theorem s0_1934 : sh0R[1934]? = some (Sh.arr 0 128) := by decide +kernel
theorem s0_1935 : sh0R[1935]? = some (Sh.arr 0 128) := by decide +kernel
theorem s0_1936 : sh0R[1936]? = some (Sh.arr 1 128) := by decide +kernel
theorem s0_1937 : sh0R[1937]? = some (Sh.arr 11 129) := by decide +kernel
theorem s0_2067 : sh0R[2067]? = some (Sh.arr 0 8) := by decide +kernel
theorem s0_2068 : sh0R[2068]? = some (Sh.arr 3 256) := by decide +kernel
theorem s0_2069 : sh0R[2069]? = some (Sh.arr 0 8192) := by decide +kernel
theorem s0_2070 : sh0R[2070]? = some (Sh.arr 2 8192) := by decide +kernel
theorem s0_2071 : sh0R[2071]? = some (Sh.arr 11 24) := by decide +kernel
theorem s0_2096 : sh0R[2096]? = some (Sh.arr 11 24) := by decide +kernel
theorem s0_2121 : sh0R[2121]? = some (Sh.arr 8 3) := by decide +kernel
theorem s0_2125 : sh0R[2125]? = some (Sh.arr 0 3) := by decide +kernel
theorem s0_2126 : sh0R[2126]? = some (Sh.arr 1 65536) := by decide +kernel
theorem s0_2127 : sh0R[2127]? = some (Sh.arr 1 65536) := by decide +kernel
theorem s0_2128 : sh0R[2128]? = some (Sh.arr 3 65536) := by decide +kernel
theorem s0_2129 : sh0R[2129]? = some (Sh.arr 13 48) := by decide +kernel
theorem s0_2130 : sh0R[2130]? = some (Sh.arr 0 120) := by decide +kernel
theorem s0_2131 : sh0R[2131]? = some (Sh.arr 0 120) := by decide +kernel
theorem s0_2132 : sh0R[2132]? = some (Sh.obj 17) := by decide +kernel
theorem s0_2133 : sh0R[2133]? = some (Sh.obj 16) := by decide +kernel
theorem s0_2134 : sh0R[2134]? = some (Sh.arr 0 512) := by decide +kernel
theorem s0_2135 : sh0R[2135]? = some (Sh.arr 0 512) := by decide +kernel
theorem s0_2136 : sh0R[2136]? = some (Sh.arr 11 42) := by decide +kernel
theorem s0_2179 : sh0R[2179]? = some (Sh.arr 6 42) := by decide +kernel
theorem s0_2180 : sh0R[2180]? = some (Sh.arr 13 42) := by decide +kernel
theorem s0_2181 : sh0R[2181]? = some (Sh.arr 0 42) := by decide +kernel
theorem s0_2182 : sh0R[2182]? = some (Sh.arr 0 3) := by decide +kernel
theorem s0_2183 : sh0R[2183]? = some (Sh.arr 0 3) := by decide +kernel
theorem s0_2184 : sh0R[2184]? = some (Sh.arr 0 3) := by decide +kernel
theorem s0_2185 : sh0R[2185]? = some (Sh.arr 0 3) := by decide +kernel
theorem s0_2186 : sh0R[2186]? = some (Sh.arr 0 120) := by decide +kernel
theorem s0_2187 : sh0R[2187]? = some (Sh.arr 0 120) := by decide +kernel
theorem s0_2188 : sh0R[2188]? = some (Sh.arr 0 3) := by decide +kernel
theorem s0_2189 : sh0R[2189]? = some (Sh.arr 0 120) := by decide +kernel
theorem s0_2190 : sh0R[2190]? = some (Sh.arr 3 256) := by decide +kernel
theorem s0_2191 : sh0R[2191]? = some (Sh.arr 2 1024) := by decide +kernel
theorem s0_2192 : sh0R[2192]? = some (Sh.arr 0 3) := by decide +kernel
theorem rM_0 {sh : List Sh} {r : Nat → Nat → Rf} (F : FX ΦR sh r) : r 0 0 = Rf.ptr 1 := (F.r (a := 0) (k := 0) (by show cstR 0 0 = true; unfold cstR; rw [s0_0]; rfl)).trans (by show r0R 0 0 = Rf.ptr 1; unfold r0R; rw [s0_0]; rfl)
theorem rM_1 {sh : List Sh} {r : Nat → Nat → Rf} (F : FX ΦR sh r) : r 0 1 = Rf.ptr 2 := (F.r (a := 0) (k := 1) (by show cstR 0 1 = true; unfold cstR; rw [s0_0]; rfl)).trans (by show r0R 0 1 = Rf.ptr 2; unfold r0R; rw [s0_0]; rfl)
theorem rM_2 {sh : List Sh} {r : Nat → Nat → Rf} (F : FX ΦR sh r) : r 0 2 = Rf.ptr 3 := (F.r (a := 0) (k := 2) (by show cstR 0 2 = true; unfold cstR; rw [s0_0]; rfl)).trans (by show r0R 0 2 = Rf.ptr 3; unfold r0R; rw [s0_0]; rfl)
theorem rM_3 {sh : List Sh} {r : Nat → Nat → Rf} (F : FX ΦR sh r) : r 0 3 = Rf.ptr 4 := (F.r (a := 0) (k := 3) (by show cstR 0 3 = true; unfold cstR; rw [s0_0]; rfl)).trans (by show r0R 0 3 = Rf.ptr 4; unfold r0R; rw [s0_0]; rfl)
theorem rM_8 {sh : List Sh} {r : Nat → Nat → Rf} (F : FX ΦR sh r) : r 0 8 = Rf.ptr 5 := (F.r (a := 0) (k := 8) (by show cstR 0 8 = true; unfold cstR; rw [s0_0]; rfl)).trans (by show r0R 0 8 = Rf.ptr 5; unfold r0R; rw [s0_0]; rfl)
theorem rM_9 {sh : List Sh} {r : Nat → Nat → Rf} (F : FX ΦR sh r) : r 0 9 = Rf.ptr 7 := (F.r (a := 0) (k := 9) (by show cstR 0 9 = true; unfold cstR; rw [s0_0]; rfl)).trans (by show r0R 0 9 = Rf.ptr 7; unfold r0R; rw [s0_0]; rfl)
theorem rM_11 {sh : List Sh} {r : Nat → Nat → Rf} (F : FX ΦR sh r) : r 0 11 = Rf.ptr 9 := (F.r (a := 0) (k := 11) (by show cstR 0 11 = true; unfold cstR; rw [s0_0]; rfl)).trans (by show r0R 0 11 = Rf.ptr 9; unfold r0R; rw [s0_0]; rfl)
theorem rM_12 {sh : List Sh} {r : Nat → Nat → Rf} (F : FX ΦR sh r) : r 0 12 = Rf.ptr 35 := (F.r (a := 0) (k := 12) (by show cstR 0 12 = true; unfold cstR; rw [s0_0]; rfl)).trans (by show r0R 0 12 = Rf.ptr 35; unfold r0R; rw [s0_0]; rfl)
theorem rM_13 {sh : List Sh} {r : Nat → Nat → Rf} (F : FX ΦR sh r) : r 0 13 = Rf.ptr 36 := (F.r (a := 0) (k := 13) (by show cstR 0 13 = true; unfold cstR; rw [s0_0]; rfl)).trans (by show r0R 0 13 = Rf.ptr 36; unfold r0R; rw [s0_0]; rfl)
theorem rM_14 {sh : List Sh} {r : Nat → Nat → Rf} (F : FX ΦR sh r) : r 0 14 = Rf.ptr 37 := (F.r (a := 0) (k := 14) (by show cstR 0 14 = true; unfold cstR; rw [s0_0]; rfl)).trans (by show r0R 0 14 = Rf.ptr 37; unfold r0R; rw [s0_0]; rfl)
theorem rM_28 {sh : List Sh} {r : Nat → Nat → Rf} (F : FX ΦR sh r) : r 0 28 = Rf.ptr 38 := (F.r (a := 0) (k := 28) (by show cstR 0 28 = true; unfold cstR; rw [s0_0]; rfl)).trans (by show r0R 0 28 = Rf.ptr 38; unfold r0R; rw [s0_0]; rfl)
theorem rM_29 {sh : List Sh} {r : Nat → Nat → Rf} (F : FX ΦR sh r) : r 0 29 = Rf.ptr 47 := (F.r (a := 0) (k := 29) (by show cstR 0 29 = true; unfold cstR; rw [s0_0]; rfl)).trans (by show r0R 0 29 = Rf.ptr 47; unfold r0R; rw [s0_0]; rfl)
theorem rM_30 {sh : List Sh} {r : Nat → Nat → Rf} (F : FX ΦR sh r) : r 0 30 = Rf.ptr 50 := (F.r (a := 0) (k := 30) (by show cstR 0 30 = true; unfold cstR; rw [s0_0]; rfl)).trans (by show r0R 0 30 = Rf.ptr 50; unfold r0R; rw [s0_0]; rfl)
theorem rM_31 {sh : List Sh} {r : Nat → Nat → Rf} (F : FX ΦR sh r) : r 0 31 = Rf.ptr 54 := (F.r (a := 0) (k := 31) (by show cstR 0 31 = true; unfold cstR; rw [s0_0]; rfl)).trans (by show r0R 0 31 = Rf.ptr 54; unfold r0R; rw [s0_0]; rfl)
theorem rM_35 {sh : List Sh} {r : Nat → Nat → Rf} (F : FX ΦR sh r) : r 0 35 = Rf.ptr 55 := (F.r (a := 0) (k := 35) (by show cstR 0 35 = true; unfold cstR; rw [s0_0]; rfl)).trans (by show r0R 0 35 = Rf.ptr 55; unfold r0R; rw [s0_0]; rfl)
theorem rM_36 {sh : List Sh} {r : Nat → Nat → Rf} (F : FX ΦR sh r) : r 0 36 = Rf.ptr 1880 := (F.r (a := 0) (k := 36) (by show cstR 0 36 = true; unfold cstR; rw [s0_0]; rfl)).trans (by show r0R 0 36 = Rf.ptr 1880; unfold r0R; rw [s0_0]; rfl)
theorem rM_37 {sh : List Sh} {r : Nat → Nat → Rf} (F : FX ΦR sh r) : r 0 37 = Rf.ptr 1905 := (F.r (a := 0) (k := 37) (by show cstR 0 37 = true; unfold cstR; rw [s0_0]; rfl)).trans (by show r0R 0 37 = Rf.ptr 1905; unfold r0R; rw [s0_0]; rfl)
theorem rM_38 {sh : List Sh} {r : Nat → Nat → Rf} (F : FX ΦR sh r) : r 0 38 = Rf.ptr 1930 := (F.r (a := 0) (k := 38) (by show cstR 0 38 = true; unfold cstR; rw [s0_0]; rfl)).trans (by show r0R 0 38 = Rf.ptr 1930; unfold r0R; rw [s0_0]; rfl)
theorem rM_39 {sh : List Sh} {r : Nat → Nat → Rf} (F : FX ΦR sh r) : r 0 39 = Rf.ptr 1931 := (F.r (a := 0) (k := 39) (by show cstR 0 39 = true; unfold cstR; rw [s0_0]; rfl)).trans (by show r0R 0 39 = Rf.ptr 1931; unfold r0R; rw [s0_0]; rfl)
theorem rM_40 {sh : List Sh} {r : Nat → Nat → Rf} (F : FX ΦR sh r) : r 0 40 = Rf.ptr 1932 := (F.r (a := 0) (k := 40) (by show cstR 0 40 = true; unfold cstR; rw [s0_0]; rfl)).trans (by show r0R 0 40 = Rf.ptr 1932; unfold r0R; rw [s0_0]; rfl)
theorem rM_42 {sh : List Sh} {r : Nat → Nat → Rf} (F : FX ΦR sh r) : r 0 42 = Rf.ptr 1933 := (F.r (a := 0) (k := 42) (by show cstR 0 42 = true; unfold cstR; rw [s0_0]; rfl)).trans (by show r0R 0 42 = Rf.ptr 1933; unfold r0R; rw [s0_0]; rfl)
theorem rM_43 {sh : List Sh} {r : Nat → Nat → Rf} (F : FX ΦR sh r) : r 0 43 = Rf.ptr 1934 := (F.r (a := 0) (k := 43) (by show cstR 0 43 = true; unfold cstR; rw [s0_0]; rfl)).trans (by show r0R 0 43 = Rf.ptr 1934; unfold r0R; rw [s0_0]; rfl)
theorem rM_44 {sh : List Sh} {r : Nat → Nat → Rf} (F : FX ΦR sh r) : r 0 44 = Rf.ptr 1935 := (F.r (a := 0) (k := 44) (by show cstR 0 44 = true; unfold cstR; rw [s0_0]; rfl)).trans (by show r0R 0 44 = Rf.ptr 1935; unfold r0R; rw [s0_0]; rfl)
theorem rM_45 {sh : List Sh} {r : Nat → Nat → Rf} (F : FX ΦR sh r) : r 0 45 = Rf.ptr 1936 := (F.r (a := 0) (k := 45) (by show cstR 0 45 = true; unfold cstR; rw [s0_0]; rfl)).trans (by show r0R 0 45 = Rf.ptr 1936; unfold r0R; rw [s0_0]; rfl)
theorem rM_46 {sh : List Sh} {r : Nat → Nat → Rf} (F : FX ΦR sh r) : r 0 46 = Rf.ptr 1937 := (F.r (a := 0) (k := 46) (by show cstR 0 46 = true; unfold cstR; rw [s0_0]; rfl)).trans (by show r0R 0 46 = Rf.ptr 1937; unfold r0R; rw [s0_0]; rfl)
theorem rM_49 {sh : List Sh} {r : Nat → Nat → Rf} (F : FX ΦR sh r) : r 0 49 = Rf.ptr 2067 := (F.r (a := 0) (k := 49) (by show cstR 0 49 = true; unfold cstR; rw [s0_0]; rfl)).trans (by show r0R 0 49 = Rf.ptr 2067; unfold r0R; rw [s0_0]; rfl)
theorem rM_52 {sh : List Sh} {r : Nat → Nat → Rf} (F : FX ΦR sh r) : r 0 52 = Rf.ptr 2068 := (F.r (a := 0) (k := 52) (by show cstR 0 52 = true; unfold cstR; rw [s0_0]; rfl)).trans (by show r0R 0 52 = Rf.ptr 2068; unfold r0R; rw [s0_0]; rfl)
theorem rM_55 {sh : List Sh} {r : Nat → Nat → Rf} (F : FX ΦR sh r) : r 0 55 = Rf.ptr 2069 := (F.r (a := 0) (k := 55) (by show cstR 0 55 = true; unfold cstR; rw [s0_0]; rfl)).trans (by show r0R 0 55 = Rf.ptr 2069; unfold r0R; rw [s0_0]; rfl)
theorem rM_56 {sh : List Sh} {r : Nat → Nat → Rf} (F : FX ΦR sh r) : r 0 56 = Rf.ptr 2070 := (F.r (a := 0) (k := 56) (by show cstR 0 56 = true; unfold cstR; rw [s0_0]; rfl)).trans (by show r0R 0 56 = Rf.ptr 2070; unfold r0R; rw [s0_0]; rfl)
theorem rM_57 {sh : List Sh} {r : Nat → Nat → Rf} (F : FX ΦR sh r) : r 0 57 = Rf.ptr 2071 := (F.r (a := 0) (k := 57) (by show cstR 0 57 = true; unfold cstR; rw [s0_0]; rfl)).trans (by show r0R 0 57 = Rf.ptr 2071; unfold r0R; rw [s0_0]; rfl)
theorem rM_58 {sh : List Sh} {r : Nat → Nat → Rf} (F : FX ΦR sh r) : r 0 58 = Rf.ptr 2096 := (F.r (a := 0) (k := 58) (by show cstR 0 58 = true; unfold cstR; rw [s0_0]; rfl)).trans (by show r0R 0 58 = Rf.ptr 2096; unfold r0R; rw [s0_0]; rfl)
theorem rM_59 {sh : List Sh} {r : Nat → Nat → Rf} (F : FX ΦR sh r) : r 0 59 = Rf.ptr 2121 := (F.r (a := 0) (k := 59) (by show cstR 0 59 = true; unfold cstR; rw [s0_0]; rfl)).trans (by show r0R 0 59 = Rf.ptr 2121; unfold r0R; rw [s0_0]; rfl)
theorem rM_60 {sh : List Sh} {r : Nat → Nat → Rf} (F : FX ΦR sh r) : r 0 60 = Rf.ptr 2125 := (F.r (a := 0) (k := 60) (by show cstR 0 60 = true; unfold cstR; rw [s0_0]; rfl)).trans (by show r0R 0 60 = Rf.ptr 2125; unfold r0R; rw [s0_0]; rfl)
theorem rM_61 {sh : List Sh} {r : Nat → Nat → Rf} (F : FX ΦR sh r) : r 0 61 = Rf.ptr 2126 := (F.r (a := 0) (k := 61) (by show cstR 0 61 = true; unfold cstR; rw [s0_0]; rfl)).trans (by show r0R 0 61 = Rf.ptr 2126; unfold r0R; rw [s0_0]; rfl)
theorem rM_62 {sh : List Sh} {r : Nat → Nat → Rf} (F : FX ΦR sh r) : r 0 62 = Rf.ptr 2127 := (F.r (a := 0) (k := 62) (by show cstR 0 62 = true; unfold cstR; rw [s0_0]; rfl)).trans (by show r0R 0 62 = Rf.ptr 2127; unfold r0R; rw [s0_0]; rfl)
theorem rM_63 {sh : List Sh} {r : Nat → Nat → Rf} (F : FX ΦR sh r) : r 0 63 = Rf.ptr 2128 := (F.r (a := 0) (k := 63) (by show cstR 0 63 = true; unfold cstR; rw [s0_0]; rfl)).trans (by show r0R 0 63 = Rf.ptr 2128; unfold r0R; rw [s0_0]; rfl)
theorem rM_69 {sh : List Sh} {r : Nat → Nat → Rf} (F : FX ΦR sh r) : r 0 69 = Rf.ptr 2129 := (F.r (a := 0) (k := 69) (by show cstR 0 69 = true; unfold cstR; rw [s0_0]; rfl)).trans (by show r0R 0 69 = Rf.ptr 2129; unfold r0R; rw [s0_0]; rfl)
theorem rM_71 {sh : List Sh} {r : Nat → Nat → Rf} (F : FX ΦR sh r) : r 0 71 = Rf.ptr 2130 := (F.r (a := 0) (k := 71) (by show cstR 0 71 = true; unfold cstR; rw [s0_0]; rfl)).trans (by show r0R 0 71 = Rf.ptr 2130; unfold r0R; rw [s0_0]; rfl)
theorem rM_72 {sh : List Sh} {r : Nat → Nat → Rf} (F : FX ΦR sh r) : r 0 72 = Rf.ptr 2131 := (F.r (a := 0) (k := 72) (by show cstR 0 72 = true; unfold cstR; rw [s0_0]; rfl)).trans (by show r0R 0 72 = Rf.ptr 2131; unfold r0R; rw [s0_0]; rfl)
theorem rM_76 {sh : List Sh} {r : Nat → Nat → Rf} (F : FX ΦR sh r) : r 0 76 = Rf.ptr 2132 := (F.r (a := 0) (k := 76) (by show cstR 0 76 = true; unfold cstR; rw [s0_0]; rfl)).trans (by show r0R 0 76 = Rf.ptr 2132; unfold r0R; rw [s0_0]; rfl)
theorem rM_77 {sh : List Sh} {r : Nat → Nat → Rf} (F : FX ΦR sh r) : r 0 77 = Rf.ptr 2133 := (F.r (a := 0) (k := 77) (by show cstR 0 77 = true; unfold cstR; rw [s0_0]; rfl)).trans (by show r0R 0 77 = Rf.ptr 2133; unfold r0R; rw [s0_0]; rfl)
theorem rM_88 {sh : List Sh} {r : Nat → Nat → Rf} (F : FX ΦR sh r) : r 0 88 = Rf.ptr 2134 := (F.r (a := 0) (k := 88) (by show cstR 0 88 = true; unfold cstR; rw [s0_0]; rfl)).trans (by show r0R 0 88 = Rf.ptr 2134; unfold r0R; rw [s0_0]; rfl)
theorem rM_89 {sh : List Sh} {r : Nat → Nat → Rf} (F : FX ΦR sh r) : r 0 89 = Rf.ptr 2135 := (F.r (a := 0) (k := 89) (by show cstR 0 89 = true; unfold cstR; rw [s0_0]; rfl)).trans (by show r0R 0 89 = Rf.ptr 2135; unfold r0R; rw [s0_0]; rfl)
theorem rM_90 {sh : List Sh} {r : Nat → Nat → Rf} (F : FX ΦR sh r) : r 0 90 = Rf.ptr 2136 := (F.r (a := 0) (k := 90) (by show cstR 0 90 = true; unfold cstR; rw [s0_0]; rfl)).trans (by show r0R 0 90 = Rf.ptr 2136; unfold r0R; rw [s0_0]; rfl)
theorem rM_91 {sh : List Sh} {r : Nat → Nat → Rf} (F : FX ΦR sh r) : r 0 91 = Rf.ptr 2179 := (F.r (a := 0) (k := 91) (by show cstR 0 91 = true; unfold cstR; rw [s0_0]; rfl)).trans (by show r0R 0 91 = Rf.ptr 2179; unfold r0R; rw [s0_0]; rfl)
theorem rM_92 {sh : List Sh} {r : Nat → Nat → Rf} (F : FX ΦR sh r) : r 0 92 = Rf.ptr 2180 := (F.r (a := 0) (k := 92) (by show cstR 0 92 = true; unfold cstR; rw [s0_0]; rfl)).trans (by show r0R 0 92 = Rf.ptr 2180; unfold r0R; rw [s0_0]; rfl)
theorem rM_93 {sh : List Sh} {r : Nat → Nat → Rf} (F : FX ΦR sh r) : r 0 93 = Rf.ptr 2181 := (F.r (a := 0) (k := 93) (by show cstR 0 93 = true; unfold cstR; rw [s0_0]; rfl)).trans (by show r0R 0 93 = Rf.ptr 2181; unfold r0R; rw [s0_0]; rfl)
theorem rM_94 {sh : List Sh} {r : Nat → Nat → Rf} (F : FX ΦR sh r) : r 0 94 = Rf.ptr 2182 := (F.r (a := 0) (k := 94) (by show cstR 0 94 = true; unfold cstR; rw [s0_0]; rfl)).trans (by show r0R 0 94 = Rf.ptr 2182; unfold r0R; rw [s0_0]; rfl)
theorem rM_95 {sh : List Sh} {r : Nat → Nat → Rf} (F : FX ΦR sh r) : r 0 95 = Rf.ptr 2183 := (F.r (a := 0) (k := 95) (by show cstR 0 95 = true; unfold cstR; rw [s0_0]; rfl)).trans (by show r0R 0 95 = Rf.ptr 2183; unfold r0R; rw [s0_0]; rfl)
theorem rM_99 {sh : List Sh} {r : Nat → Nat → Rf} (F : FX ΦR sh r) : r 0 99 = Rf.ptr 2184 := (F.r (a := 0) (k := 99) (by show cstR 0 99 = true; unfold cstR; rw [s0_0]; rfl)).trans (by show r0R 0 99 = Rf.ptr 2184; unfold r0R; rw [s0_0]; rfl)
theorem rM_100 {sh : List Sh} {r : Nat → Nat → Rf} (F : FX ΦR sh r) : r 0 100 = Rf.ptr 2185 := (F.r (a := 0) (k := 100) (by show cstR 0 100 = true; unfold cstR; rw [s0_0]; rfl)).trans (by show r0R 0 100 = Rf.ptr 2185; unfold r0R; rw [s0_0]; rfl)
theorem rM_101 {sh : List Sh} {r : Nat → Nat → Rf} (F : FX ΦR sh r) : r 0 101 = Rf.ptr 2186 := (F.r (a := 0) (k := 101) (by show cstR 0 101 = true; unfold cstR; rw [s0_0]; rfl)).trans (by show r0R 0 101 = Rf.ptr 2186; unfold r0R; rw [s0_0]; rfl)
theorem rM_103 {sh : List Sh} {r : Nat → Nat → Rf} (F : FX ΦR sh r) : r 0 103 = Rf.ptr 2187 := (F.r (a := 0) (k := 103) (by show cstR 0 103 = true; unfold cstR; rw [s0_0]; rfl)).trans (by show r0R 0 103 = Rf.ptr 2187; unfold r0R; rw [s0_0]; rfl)
theorem rM_104 {sh : List Sh} {r : Nat → Nat → Rf} (F : FX ΦR sh r) : r 0 104 = Rf.ptr 2188 := (F.r (a := 0) (k := 104) (by show cstR 0 104 = true; unfold cstR; rw [s0_0]; rfl)).trans (by show r0R 0 104 = Rf.ptr 2188; unfold r0R; rw [s0_0]; rfl)
theorem rM_105 {sh : List Sh} {r : Nat → Nat → Rf} (F : FX ΦR sh r) : r 0 105 = Rf.ptr 2189 := (F.r (a := 0) (k := 105) (by show cstR 0 105 = true; unfold cstR; rw [s0_0]; rfl)).trans (by show r0R 0 105 = Rf.ptr 2189; unfold r0R; rw [s0_0]; rfl)
theorem rM_109 {sh : List Sh} {r : Nat → Nat → Rf} (F : FX ΦR sh r) : r 0 109 = Rf.ptr 2190 := (F.r (a := 0) (k := 109) (by show cstR 0 109 = true; unfold cstR; rw [s0_0]; rfl)).trans (by show r0R 0 109 = Rf.ptr 2190; unfold r0R; rw [s0_0]; rfl)
theorem rM_113 {sh : List Sh} {r : Nat → Nat → Rf} (F : FX ΦR sh r) : r 0 113 = Rf.ptr 2191 := (F.r (a := 0) (k := 113) (by show cstR 0 113 = true; unfold cstR; rw [s0_0]; rfl)).trans (by show r0R 0 113 = Rf.ptr 2191; unfold r0R; rw [s0_0]; rfl)
theorem rM_114 {sh : List Sh} {r : Nat → Nat → Rf} (F : FX ΦR sh r) : r 0 114 = Rf.ptr 2192 := (F.r (a := 0) (k := 114) (by show cstR 0 114 = true; unfold cstR; rw [s0_0]; rfl)).trans (by show r0R 0 114 = Rf.ptr 2192; unfold r0R; rw [s0_0]; rfl)
theorem rO_18_0 {sh : List Sh} {r : Nat → Nat → Rf} (F : FX ΦR sh r) {a : Nat} (p : sh0R[a]? = some (Sh.obj 18)) : r a 0 = Rf.ptr (a + 1) := (F.r (a := a) (k := 0) (by show cstR _ _ = _; unfold cstR; rw [p]; rfl)).trans (by show r0R _ _ = _; unfold r0R; rw [p]; rfl)
theorem rO_18_2 {sh : List Sh} {r : Nat → Nat → Rf} (F : FX ΦR sh r) {a : Nat} (p : sh0R[a]? = some (Sh.obj 18)) : r a 2 = Rf.ptr (a + 3) := (F.r (a := a) (k := 2) (by show cstR _ _ = _; unfold cstR; rw [p]; rfl)).trans (by show r0R _ _ = _; unfold r0R; rw [p]; rfl)
theorem rO_18_4 {sh : List Sh} {r : Nat → Nat → Rf} (F : FX ΦR sh r) {a : Nat} (p : sh0R[a]? = some (Sh.obj 18)) : r a 4 = Rf.ptr (a + 4) := (F.r (a := a) (k := 4) (by show cstR _ _ = _; unfold cstR; rw [p]; rfl)).trans (by show r0R _ _ = _; unfold r0R; rw [p]; rfl)
theorem rO_18_5 {sh : List Sh} {r : Nat → Nat → Rf} (F : FX ΦR sh r) {a : Nat} (p : sh0R[a]? = some (Sh.obj 18)) : r a 5 = Rf.ptr (a + 8) := (F.r (a := a) (k := 5) (by show cstR _ _ = _; unfold cstR; rw [p]; rfl)).trans (by show r0R _ _ = _; unfold r0R; rw [p]; rfl)
theorem rO_20_0 {sh : List Sh} {r : Nat → Nat → Rf} (F : FX ΦR sh r) {a : Nat} (p : sh0R[a]? = some (Sh.obj 20)) : r a 0 = Rf.ptr (a + 1) := (F.r (a := a) (k := 0) (by show cstR _ _ = _; unfold cstR; rw [p]; rfl)).trans (by show r0R _ _ = _; unfold r0R; rw [p]; rfl)
theorem rO_14_0 {sh : List Sh} {r : Nat → Nat → Rf} (F : FX ΦR sh r) {a : Nat} (p : sh0R[a]? = some (Sh.obj 14)) : r a 0 = Rf.ptr (a + 1) := (F.r (a := a) (k := 0) (by show cstR _ _ = _; unfold cstR; rw [p]; rfl)).trans (by show r0R _ _ = _; unfold r0R; rw [p]; rfl)
theorem rO_19_5 {sh : List Sh} {r : Nat → Nat → Rf} (F : FX ΦR sh r) {a : Nat} (p : sh0R[a]? = some (Sh.obj 19)) : r a 5 = Rf.ptr (a + 1) := (F.r (a := a) (k := 5) (by show cstR _ _ = _; unfold cstR; rw [p]; rfl)).trans (by show r0R _ _ = _; unfold r0R; rw [p]; rfl)
theorem rO_19_6 {sh : List Sh} {r : Nat → Nat → Rf} (F : FX ΦR sh r) {a : Nat} (p : sh0R[a]? = some (Sh.obj 19)) : r a 6 = Rf.ptr (a + 2) := (F.r (a := a) (k := 6) (by show cstR _ _ = _; unfold cstR; rw [p]; rfl)).trans (by show r0R _ _ = _; unfold r0R; rw [p]; rfl)
theorem rO_19_7 {sh : List Sh} {r : Nat → Nat → Rf} (F : FX ΦR sh r) {a : Nat} (p : sh0R[a]? = some (Sh.obj 19)) : r a 7 = Rf.ptr (a + 3) := (F.r (a := a) (k := 7) (by show cstR _ _ = _; unfold cstR; rw [p]; rfl)).trans (by show r0R _ _ = _; unfold r0R; rw [p]; rfl)
theorem rO_15_1 {sh : List Sh} {r : Nat → Nat → Rf} (F : FX ΦR sh r) {a : Nat} (p : sh0R[a]? = some (Sh.obj 15)) : r a 1 = Rf.ptr (a + 1) := (F.r (a := a) (k := 1) (by show cstR _ _ = _; unfold cstR; rw [p]; rfl)).trans (by show r0R _ _ = _; unfold r0R; rw [p]; rfl)
theorem rO_15_2 {sh : List Sh} {r : Nat → Nat → Rf} (F : FX ΦR sh r) {a : Nat} (p : sh0R[a]? = some (Sh.obj 15)) : r a 2 = Rf.ptr (a + 6) := (F.r (a := a) (k := 2) (by show cstR _ _ = _; unfold cstR; rw [p]; rfl)).trans (by show r0R _ _ = _; unfold r0R; rw [p]; rfl)
theorem rO_15_3 {sh : List Sh} {r : Nat → Nat → Rf} (F : FX ΦR sh r) {a : Nat} (p : sh0R[a]? = some (Sh.obj 15)) : r a 3 = Rf.ptr (a + 7) := (F.r (a := a) (k := 3) (by show cstR _ _ = _; unfold cstR; rw [p]; rfl)).trans (by show r0R _ _ = _; unfold r0R; rw [p]; rfl)
theorem rO_22_0 {sh : List Sh} {r : Nat → Nat → Rf} (F : FX ΦR sh r) {a : Nat} (p : sh0R[a]? = some (Sh.obj 22)) : r a 0 = Rf.ptr (a + 1) := (F.r (a := a) (k := 0) (by show cstR _ _ = _; unfold cstR; rw [p]; rfl)).trans (by show r0R _ _ = _; unfold r0R; rw [p]; rfl)
theorem rE_4 {sh : List Sh} {r : Nat → Nat → Rf} (F : FX ΦR sh r) {a n k : Nat} (p : sh0R[a]? = some (Sh.arr 4 n)) : r a k = Rf.ptr (2193 + 9 * k) := (F.r (a := a) (k := k) (by show cstR _ _ = _; unfold cstR; rw [p]; simp)).trans (by show r0R _ _ = _; unfold r0R; rw [p]; rfl)
theorem rE_5 {sh : List Sh} {r : Nat → Nat → Rf} (F : FX ΦR sh r) {a n k : Nat} (p : sh0R[a]? = some (Sh.arr 5 n)) : r a k = Rf.ptr (2409 + 3 * k) := (F.r (a := a) (k := k) (by show cstR _ _ = _; unfold cstR; rw [p]; simp)).trans (by show r0R _ _ = _; unfold r0R; rw [p]; rfl)
theorem rE_6 {sh : List Sh} {r : Nat → Nat → Rf} (F : FX ΦR sh r) {a n k : Nat} (p : sh0R[a]? = some (Sh.arr 6 n)) (hn : n ≠ 42) : r a k = Rf.ptr (2497 + 4 * k) := (F.r (a := a) (k := k) (by show cstR _ _ = _; unfold cstR; rw [p]; simp [hn])).trans (by show r0R _ _ = _; unfold r0R; rw [p]; rfl)
theorem rE_7 {sh : List Sh} {r : Nat → Nat → Rf} (F : FX ΦR sh r) {a n k : Nat} (p : sh0R[a]? = some (Sh.arr 7 n)) : r a k = Rf.ptr (2481 + 2 * k) := (F.r (a := a) (k := k) (by show cstR _ _ = _; unfold cstR; rw [p]; simp)).trans (by show r0R _ _ = _; unfold r0R; rw [p]; rfl)
theorem rE_13 {sh : List Sh} {r : Nat → Nat → Rf} (F : FX ΦR sh r) {a n k : Nat} (p : sh0R[a]? = some (Sh.arr 13 n)) (hn : n ≠ 42) : r a k = Rf.ptr (2981 + 8 * k) := (F.r (a := a) (k := k) (by show cstR _ _ = _; unfold cstR; rw [p]; simp [hn])).trans (by show r0R _ _ = _; unfold r0R; rw [p]; rfl)
theorem rE_8 {sh : List Sh} {r : Nat → Nat → Rf} (F : FX ΦR sh r) {a n k : Nat} (p : sh0R[a]? = some (Sh.arr 8 n)) : r a k = Rf.ptr (a + 1 + k) := (F.r (a := a) (k := k) (by show cstR _ _ = _; unfold cstR; rw [p]; simp)).trans (by show r0R _ _ = _; unfold r0R; rw [p]; rfl)
theorem rE_11 {sh : List Sh} {r : Nat → Nat → Rf} (F : FX ΦR sh r) {a n k : Nat} (p : sh0R[a]? = some (Sh.arr 11 n)) : r a k = Rf.ptr (a + 1 + k) := (F.r (a := a) (k := k) (by show cstR _ _ = _; unfold cstR; rw [p]; simp)).trans (by show r0R _ _ = _; unfold r0R; rw [p]; rfl)
theorem rE_12 {sh : List Sh} {r : Nat → Nat → Rf} (F : FX ΦR sh r) {a n k : Nat} (p : sh0R[a]? = some (Sh.arr 12 n)) : r a k = Rf.ptr (a + 1 + k) := (F.r (a := a) (k := k) (by show cstR _ _ = _; unfold cstR; rw [p]; simp)).trans (by show r0R _ _ = _; unfold r0R; rw [p]; rfl)
theorem rE_9 {sh : List Sh} {r : Nat → Nat → Rf} (F : FX ΦR sh r) {a n k : Nat} (p : sh0R[a]? = some (Sh.arr 9 n)) : r a k = Rf.ptr (a + 1 + 76 * k) := (F.r (a := a) (k := k) (by show cstR _ _ = _; unfold cstR; rw [p]; simp)).trans (by show r0R _ _ = _; unfold r0R; rw [p]; rfl)
theorem rE_10 {sh : List Sh} {r : Nat → Nat → Rf} (F : FX ΦR sh r) {a n k : Nat} (p : sh0R[a]? = some (Sh.arr 10 n)) : r a k = Rf.ptr (a + 1 + 25 * k) := (F.r (a := a) (k := k) (by show cstR _ _ = _; unfold cstR; rw [p]; simp)).trans (by show r0R _ _ = _; unfold r0R; rw [p]; rfl)
/-- what lies behind an object of a class -/
def folR : Nat → List Sh
  | 18 => [Sh.obj 20, Sh.arr 2 16, Sh.arr 0 24, Sh.arr 8 3, Sh.arr 0 24, Sh.arr 0 24, Sh.arr 0 24, Sh.arr 0 3]
  | 20 => [Sh.arr 2 16]
  | 14 => [Sh.obj 20, Sh.arr 2 16]
  | 19 => [Sh.arr 0 3, Sh.arr 0 3, Sh.arr 3 3]
  | 15 => [Sh.arr 8 4, Sh.arr 0 120, Sh.arr 0 120, Sh.arr 0 120, Sh.arr 0 120, Sh.arr 0 4, Sh.arr 3 4]
  | 22 => [Sh.obj 0]
  | _ => []
def okT : List Sh → Bool
  | [] => true
  | .inl c :: l => if folR c = l.take (folR c).length then okT l else false
  | _ :: l => okT l
theorem okT_at : ∀ {l : List Sh} {a c : Nat}, okT l = true → l[a]? = some (Sh.obj c) → folR c <+: l.drop (a + 1)
  | [], a, c, _, h => by simp at h
  | s :: l, 0, c, h, e => by
    simp only [List.getElem?_cons_zero, Option.some.injEq] at e
    subst e
    unfold okT at h
    split at h
    · rename_i g
      simpa using List.prefix_iff_eq_take.mpr g
    · cases h
  | s :: l, a + 1, c, h, e => by
    rw [List.getElem?_cons_succ] at e
    have h2 : okT l = true := by
      rcases s with d | ⟨t, n⟩ | n
      · unfold okT at h
        split at h
        · exact h
        · cases h
      · exact h
      · exact h
    simpa using okT_at h2 e
theorem sh0R_ok : okT sh0R = true := by decide +kernel
theorem kF {a c j : Nat} {s : Sh} (p : sh0R[a]? = some (Sh.obj c)) (h : (folR c)[j]? = some s) : sh0R[a + (j + 1)]? = some s := by
  obtain ⟨t, ht⟩ := okT_at sh0R_ok p
  have : (sh0R.drop (a + 1))[j]? = some s := by
    rw [← ht, List.getElem?_append_left (List.getElem?_eq_some_iff.mp h).1]
    exact h
  rw [List.getElem?_drop] at this
  rw [show a + (j + 1) = a + 1 + j by omega]
  exact this
theorem kF_18_1 {a : Nat} (p : sh0R[a]? = some (Sh.obj 18)) : sh0R[a + 1]? = some (Sh.obj 20) := kF p rfl
theorem kF_18_2 {a : Nat} (p : sh0R[a]? = some (Sh.obj 18)) : sh0R[a + 2]? = some (Sh.arr 2 16) := kF p rfl
theorem kF_18_3 {a : Nat} (p : sh0R[a]? = some (Sh.obj 18)) : sh0R[a + 3]? = some (Sh.arr 0 24) := kF p rfl
theorem kF_18_4 {a : Nat} (p : sh0R[a]? = some (Sh.obj 18)) : sh0R[a + 4]? = some (Sh.arr 8 3) := kF p rfl
theorem kF_18_5 {a : Nat} (p : sh0R[a]? = some (Sh.obj 18)) : sh0R[a + 5]? = some (Sh.arr 0 24) := kF p rfl
theorem kF_18_6 {a : Nat} (p : sh0R[a]? = some (Sh.obj 18)) : sh0R[a + 6]? = some (Sh.arr 0 24) := kF p rfl
theorem kF_18_7 {a : Nat} (p : sh0R[a]? = some (Sh.obj 18)) : sh0R[a + 7]? = some (Sh.arr 0 24) := kF p rfl
theorem kF_18_8 {a : Nat} (p : sh0R[a]? = some (Sh.obj 18)) : sh0R[a + 8]? = some (Sh.arr 0 3) := kF p rfl
theorem kF_20_1 {a : Nat} (p : sh0R[a]? = some (Sh.obj 20)) : sh0R[a + 1]? = some (Sh.arr 2 16) := kF p rfl
theorem kF_14_1 {a : Nat} (p : sh0R[a]? = some (Sh.obj 14)) : sh0R[a + 1]? = some (Sh.obj 20) := kF p rfl
theorem kF_14_2 {a : Nat} (p : sh0R[a]? = some (Sh.obj 14)) : sh0R[a + 2]? = some (Sh.arr 2 16) := kF p rfl
theorem kF_19_1 {a : Nat} (p : sh0R[a]? = some (Sh.obj 19)) : sh0R[a + 1]? = some (Sh.arr 0 3) := kF p rfl
theorem kF_19_2 {a : Nat} (p : sh0R[a]? = some (Sh.obj 19)) : sh0R[a + 2]? = some (Sh.arr 0 3) := kF p rfl
theorem kF_19_3 {a : Nat} (p : sh0R[a]? = some (Sh.obj 19)) : sh0R[a + 3]? = some (Sh.arr 3 3) := kF p rfl
theorem kF_15_1 {a : Nat} (p : sh0R[a]? = some (Sh.obj 15)) : sh0R[a + 1]? = some (Sh.arr 8 4) := kF p rfl
theorem kF_15_2 {a : Nat} (p : sh0R[a]? = some (Sh.obj 15)) : sh0R[a + 2]? = some (Sh.arr 0 120) := kF p rfl
theorem kF_15_3 {a : Nat} (p : sh0R[a]? = some (Sh.obj 15)) : sh0R[a + 3]? = some (Sh.arr 0 120) := kF p rfl
theorem kF_15_4 {a : Nat} (p : sh0R[a]? = some (Sh.obj 15)) : sh0R[a + 4]? = some (Sh.arr 0 120) := kF p rfl
theorem kF_15_5 {a : Nat} (p : sh0R[a]? = some (Sh.obj 15)) : sh0R[a + 5]? = some (Sh.arr 0 120) := kF p rfl
theorem kF_15_6 {a : Nat} (p : sh0R[a]? = some (Sh.obj 15)) : sh0R[a + 6]? = some (Sh.arr 0 4) := kF p rfl
theorem kF_15_7 {a : Nat} (p : sh0R[a]? = some (Sh.obj 15)) : sh0R[a + 7]? = some (Sh.arr 3 4) := kF p rfl
theorem kF_22_1 {a : Nat} (p : sh0R[a]? = some (Sh.obj 22)) : sh0R[a + 1]? = some (Sh.obj 0) := kF p rfl
theorem kE_18_4 {a n : Nat} (p : sh0R[a]? = some (Sh.obj 18)) (h : n < 3) : sh0R[a + 4 + 1 + n]? = some (Sh.arr 0 24) := by
  match n, h with
  | 0, _ => exact kF_18_5 p
  | 1, _ => exact kF_18_6 p
  | 2, _ => exact kF_18_7 p
theorem kE_15_1 {a n : Nat} (p : sh0R[a]? = some (Sh.obj 15)) (h : n < 4) : sh0R[a + 1 + 1 + n]? = some (Sh.arr 0 120) := by
  match n, h with
  | 0, _ => exact kF_15_2 p
  | 1, _ => exact kF_15_3 p
  | 2, _ => exact kF_15_4 p
  | 3, _ => exact kF_15_5 p
theorem kE_1 {n : Nat} (h : n < 24) : sh0R[2193 + 9 * n]? = some (Sh.obj 18) := by
  revert n
  decide +kernel
theorem kE_2 {n : Nat} (h : n < 24) : sh0R[2409 + 3 * n]? = some (Sh.obj 14) := by
  revert n
  decide +kernel
theorem kE_3 {n : Nat} (h : n < 121) : sh0R[2497 + 4 * n]? = some (Sh.obj 19) := by
  revert n
  decide +kernel
theorem kE_4 {n : Nat} (h : n < 8) : sh0R[2481 + 2 * n]? = some (Sh.obj 20) := by
  revert n
  decide +kernel
theorem kE_2129 {n : Nat} (h : n < 48) : sh0R[2981 + 8 * n]? = some (Sh.obj 15) := by
  revert n
  decide +kernel
theorem kE_9 {n : Nat} (h : n < 25) : sh0R[9 + 1 + n]? = some (Sh.arr 0 24) := by
  revert n
  decide +kernel
theorem kE_1880 {n : Nat} (h : n < 24) : sh0R[1880 + 1 + n]? = some (Sh.arr 3 24) := by
  revert n
  decide +kernel
theorem kE_1905 {n : Nat} (h : n < 24) : sh0R[1905 + 1 + n]? = some (Sh.arr 1 2) := by
  revert n
  decide +kernel
theorem kE_1937 {n : Nat} (h : n < 129) : sh0R[1937 + 1 + n]? = some (Sh.arr 1 16) := by
  revert n
  decide +kernel
theorem kE_2071 {n : Nat} (h : n < 24) : sh0R[2071 + 1 + n]? = some (Sh.arr 1 3) := by
  revert n
  decide +kernel
theorem kE_2096 {n : Nat} (h : n < 24) : sh0R[2096 + 1 + n]? = some (Sh.arr 1 3) := by
  revert n
  decide +kernel
theorem kE_2121 {n : Nat} (h : n < 3) : sh0R[2121 + 1 + n]? = some (Sh.arr 0 24) := by
  revert n
  decide +kernel
theorem kE_2136 {n : Nat} (h : n < 42) : sh0R[2136 + 1 + n]? = some (Sh.arr 1 16) := by
  revert n
  decide +kernel
theorem kE_55 {n : Nat} (h : n < 24) : sh0R[55 + 1 + 76 * n]? = some (Sh.arr 10 3) := by
  revert n
  decide +kernel
def folF : List Sh := (List.replicate 3 (Sh.arr 11 24 :: List.replicate 24 (Sh.arr 1 2))).flatten
def okF : List Sh → Bool
  | [] => true
  | s :: l => if s = Sh.arr 10 3 then (if folF = l.take folF.length then okF l else false) else okF l
theorem okF_at : ∀ {l : List Sh} {a : Nat}, okF l = true → l[a]? = some (Sh.arr 10 3) → folF <+: l.drop (a + 1)
  | [], a, _, h => by simp at h
  | s :: l, 0, h, e => by
    simp only [List.getElem?_cons_zero, Option.some.injEq] at e
    unfold okF at h
    rw [if_pos e] at h
    split at h
    · rename_i g
      simpa using List.prefix_iff_eq_take.mpr g
    · cases h
  | s :: l, a + 1, h, e => by
    rw [List.getElem?_cons_succ] at e
    have h2 : okF l = true := by
      unfold okF at h
      split at h
      · split at h
        · exact h
        · cases h
      · exact h
    simpa using okF_at h2 e
theorem sh0R_okF : okF sh0R = true := by decide +kernel
theorem kFF {a j : Nat} {s : Sh} (p : sh0R[a]? = some (Sh.arr 10 3)) (h : folF[j]? = some s) : sh0R[a + 1 + j]? = some s := by
  obtain ⟨t, ht⟩ := okF_at sh0R_okF p
  have : (sh0R.drop (a + 1))[j]? = some s := by
    rw [← ht, List.getElem?_append_left (List.getElem?_eq_some_iff.mp h).1]
    exact h
  rw [List.getElem?_drop] at this
  exact this
theorem folF_1 : ∀ n : Fin 3, folF[25 * n.val]? = some (Sh.arr 11 24) := by decide +kernel
theorem folF_2 : ∀ n : Fin 3, ∀ k : Fin 24, folF[25 * n.val + 1 + k.val]? = some (Sh.arr 1 2) := by decide +kernel
theorem kE_fit1 {c n : Nat} (hc : c < 24) (h : n < 3) : sh0R[55 + 1 + 76 * c + 1 + 25 * n]? = some (Sh.arr 11 24) := kFF (kE_55 hc) (folF_1 ⟨n, h⟩)
theorem kE_fit2 {c n k : Nat} (hc : c < 24) (hn : n < 3) (h : k < 24) : sh0R[55 + 1 + 76 * c + 1 + 25 * n + 1 + k]? = some (Sh.arr 1 2) := by
  rw [show 55 + 1 + 76 * c + 1 + 25 * n + 1 + k = 55 + 1 + 76 * c + 1 + (25 * n + 1 + k) by omega]
  exact kFF (kE_55 hc) (folF_2 ⟨n, hn⟩ ⟨k, h⟩)
theorem hΦR : ∀ a k, ΦR.cst a k = true → a < ΦR.sh0.length := by
  intro a k h
  have h : cstR a k = true := h
  unfold cstR at h
  by_cases g : a < sh0R.length
  · exact g
  · rw [List.getElem?_eq_none (Nat.not_lt.mp g)] at h
    cases h

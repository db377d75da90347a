/-- what the law must come to -/
def p1_Q : ab_RX → List ab_E → Prop := fun r h => r = .inl (some (.int 1)) ∧ h.length ≤ 600002 ∧ ab_z h ≤ 7302232
def p1_o0 : List Value := [.ref 1, .ref 40, .ref 46, .ref 56, .ref 67, .ref 83, .ref 98, .ref 99, .ref 100, .int 0, .int 0, .int 0, .int 10000, .int 0]
theorem p1_n0 : p1_o0.length = 14 := by decide +kernel
def p1_o1 : List Value := [.ref 2, .ref 10, .ref 24, .ref 28, .ref 29, .ref 30, .ref 31, .ref 32, .ref 33, .ref 34, .ref 35, .ref 36, .ref 37, .ref 38, .int 2, .int 0, .int 2, .ref 39]
theorem p1_n1 : p1_o1.length = 18 := by decide +kernel
def p1_o2 : List Value := [.ref 3, .ref 4, .ref 5, .ref 6, .int 1, .ref 7, .ref 8, .ref 9]
theorem p1_n2 : p1_o2.length = 8 := by decide +kernel
def p1_a3 : List Int32 := (List.replicate 24 0).set 0 (1)
theorem p1_n3 : p1_a3.length = 24 := by decide +kernel
def p1_a4 : List Int32 := (((List.replicate 24 0).set 0 (1)).set 1 (3)).set 2 (5)
theorem p1_n4 : p1_a4.length = 24 := by decide +kernel
def p1_a5 : List Int32 := (((List.replicate 24 0).set 0 (1)).set 1 (2)).set 2 (2)
theorem p1_n5 : p1_a5.length = 24 := by decide +kernel
def p1_a7 : List Int32 := ((((((List.replicate 1728 0).set 24 (1)).set 48 (2)).set 600 (1)).set 624 (2)).set 1176 (1)).set 1200 (2)
theorem p1_n7 : p1_a7.length = 1728 := by decide +kernel
def p1_o10 : List Value := [.int 0, .ref 11, .ref 12, .ref 13, .ref 14, .ref 15, .ref 16, .ref 17, .ref 18, .ref 19, .ref 20, .ref 21, .ref 22, .ref 23]
theorem p1_n10 : p1_o10.length = 14 := by decide +kernel
def p1_o24 : List Value := [.ref 25, .ref 26, .ref 27, .int 902, .int 0]
theorem p1_n24 : p1_o24.length = 5 := by decide +kernel
def p1_a28 : List Int32 := (List.replicate 4 0).set 0 (3)
theorem p1_n28 : p1_a28.length = 4 := by decide +kernel
def p1_a38 : List Int32 := ((List.replicate 24 0).set 0 (1)).set 1 (2)
theorem p1_n38 : p1_a38.length = 24 := by decide +kernel
def p1_o40 : List Value := [.ref 1, .ref 41, .int 0, .int 0, .int 0, .int 0, .int 0, .int 0, .int 0, .int 0, .int 0, .int 0, .long 0]
theorem p1_n40 : p1_o40.length = 13 := by decide +kernel
def p1_o41 : List Value := [.ref 42, .ref 43, .ref 44, .ref 45, .int 0]
theorem p1_n41 : p1_o41.length = 5 := by decide +kernel
def p1_o46 : List Value := [.ref 1, .ref 48, .ref 47]
theorem p1_n46 : p1_o46.length = 3 := by decide +kernel
def p1_o83 : List Value := [.ref 1, .ref 84, .ref 93, .ref 94, .ref 95, .int 0, .int 0, .int 0, .int 0, .int 0, .long 0, .int (-1), .int 0, .long 0, .int 0, .ref 96, .int 0, .ref 97, .int 0]
theorem p1_n83 : p1_o83.length = 19 := by decide +kernel
def p1_o84 : List Value := [.ref 1, .ref 46, .ref 56, .int 0, .int 0, .ref 85, .ref 86, .ref 87, .ref 88, .ref 89, .ref 90, .int 0, .ref 91, .ref 92]
theorem p1_n84 : p1_o84.length = 14 := by decide +kernel
def p1_o101 : List Value := [.ref 102, .ref 103, .ref 104, .ref 105, .int 3, .int 0, .int 0, .int 0, .ref 106, .ref 108, .null, .ref 110, .ref 136, .ref 137, .ref 138, .int 0, .int 0, .int 0, .int 0, .int 0, .int 0, .int 0, .int 0, .int 0, .int 0, .retAddr 110, .int 0, .int 0, .ref 139, .ref 148, .ref 151, .ref 155, .int 0, .int 0, .null, .ref 156, .ref 1981, .ref 2006, .ref 2031, .ref 2032, .ref 2033, .int 2, .ref 2034, .ref 2035, .ref 2036, .ref 2037, .ref 2038, .int 0, .int 0, .ref 2168, .int 0, .null, .ref 2169, .int 0, .int 0, .ref 2170, .ref 2171, .ref 2172, .ref 2197, .ref 2222, .ref 2226, .ref 2227, .ref 2228, .ref 2229, .long 0, .long 0, .long 0, .long 0, .long 0, .ref 2230, .int 0, .ref 2231, .ref 2232, .int 0, .int 0, .int 0, .ref 2233, .ref 2234, .long 0, .int 0, .int 0, .int 10000, .int 0, .int 0, .int 0, .int 0, .int 0, .int 0, .ref 2235, .ref 2236, .ref 2237, .ref 2280, .ref 2281, .ref 2282, .ref 2283, .ref 2284, .int 0, .long 0, .int 0, .ref 2285, .ref 2286, .ref 2287, .int 0, .ref 2288, .ref 2289, .ref 2290, .int (-1), .int 0, .int 0, .ref 2291, .int 0, .int 0, .int 0, .ref 2292, .ref 2293]
theorem p1_n101 : p1_o101.length = 115 := by decide +kernel
def p1_a102 : List (Option Nat) := [some 2294, some 2303, some 2312, some 2321, some 2330, some 2339, some 2348, some 2357, some 2366, some 2375, some 2384, some 2393, some 2402, some 2411, some 2420, some 2429, some 2438, some 2447, some 2456, some 2465, some 2474, some 2483, some 2492, some 2501]
theorem p1_n102 : p1_a102.length = 24 := by decide +kernel
def p1_o106 : List Value := [.ref 107, .int 0]
theorem p1_n106 : p1_o106.length = 2 := by decide +kernel
def p1_o108 : List Value := [.ref 109, .int 0]
theorem p1_n108 : p1_o108.length = 2 := by decide +kernel
def p1_a110 : List (Option Nat) := [some 111, some 112, some 113, some 114, some 115, some 116, some 117, some 118, some 119, some 120, some 121, some 122, some 123, some 124, some 125, some 126, some 127, some 128, some 129, some 130, some 131, some 132, some 133, some 134, some 135]
theorem p1_n110 : p1_a110.length = 25 := by decide +kernel
def p1_a136 : List Int32 := ((List.replicate 25 0).set 0 (1)).set 1 (1)
theorem p1_n136 : p1_a136.length = 25 := by decide +kernel
def p1_a137 : List Int32 := ((List.replicate 25 0).set 0 (1)).set 1 (1)
theorem p1_n137 : p1_a137.length = 25 := by decide +kernel
def p1_a1981 : List (Option Nat) := [some 1982, some 1983, some 1984, some 1985, some 1986, some 1987, some 1988, some 1989, some 1990, some 1991, some 1992, some 1993, some 1994, some 1995, some 1996, some 1997, some 1998, some 1999, some 2000, some 2001, some 2002, some 2003, some 2004, some 2005]
theorem p1_n1981 : p1_a1981.length = 24 := by decide +kernel
def p1_a1982 : List Int32 := (List.replicate 24 0).set 0 (1)
theorem p1_n1982 : p1_a1982.length = 24 := by decide +kernel
def p1_a1983 : List Int32 := ((List.replicate 24 0).set 0 (1)).set 1 (1)
theorem p1_n1983 : p1_a1983.length = 24 := by decide +kernel
def p1_a1984 : List Int32 := ((List.replicate 24 0).set 0 (1)).set 2 (1)
theorem p1_n1984 : p1_a1984.length = 24 := by decide +kernel
def p1_a2033 : List Int32 := ((List.replicate 24 0).set 0 (1)).set 1 (2)
theorem p1_n2033 : p1_a2033.length = 24 := by decide +kernel
def p1_o2294 : List Value := [.ref 2295, .int 1, .ref 2297, .int 0, .ref 2298, .ref 2302]
theorem p1_n2294 : p1_o2294.length = 6 := by decide +kernel
def p1_o2295 : List Value := [.ref 2296, .int 3]
theorem p1_n2295 : p1_o2295.length = 2 := by decide +kernel
def p1_a2296 : List Int32 := (((List.replicate 16 0).set 0 (65)).set 1 (110)).set 2 (121)
theorem p1_n2296 : p1_a2296.length = 16 := by decide +kernel
def p1_a2298 : List (Option Nat) := [some 2299, some 2300, some 2301]
theorem p1_n2298 : p1_a2298.length = 3 := by decide +kernel
def p1_o2303 : List Value := [.ref 2304, .int 0, .ref 2306, .int 1, .ref 2307, .ref 2311]
theorem p1_n2303 : p1_o2303.length = 6 := by decide +kernel
def p1_o2304 : List Value := [.ref 2305, .int 3]
theorem p1_n2304 : p1_o2304.length = 2 := by decide +kernel
def p1_a2305 : List Int32 := (((List.replicate 16 0).set 0 (73)).set 1 (110)).set 2 (116)
theorem p1_n2305 : p1_a2305.length = 16 := by decide +kernel
def p1_a2307 : List (Option Nat) := [some 2308, some 2309, some 2310]
theorem p1_n2307 : p1_a2307.length = 3 := by decide +kernel
def p1_a2308 : List Int32 := (List.replicate 24 0).set 0 (1)
theorem p1_n2308 : p1_a2308.length = 24 := by decide +kernel
def p1_a2309 : List Int32 := (List.replicate 24 0).set 0 (1)
theorem p1_n2309 : p1_a2309.length = 24 := by decide +kernel
def p1_a2310 : List Int32 := (List.replicate 24 0).set 0 (1)
theorem p1_n2310 : p1_a2310.length = 24 := by decide +kernel
def p1_o2312 : List Value := [.ref 2313, .int 0, .ref 2315, .int 1, .ref 2316, .ref 2320]
theorem p1_n2312 : p1_o2312.length = 6 := by decide +kernel
def p1_o2313 : List Value := [.ref 2314, .int 5]
theorem p1_n2313 : p1_o2313.length = 2 := by decide +kernel
def p1_a2314 : List Int32 := (((((List.replicate 16 0).set 0 (70)).set 1 (97)).set 2 (117)).set 3 (108)).set 4 (116)
theorem p1_n2314 : p1_a2314.length = 16 := by decide +kernel
def p1_a2316 : List (Option Nat) := [some 2317, some 2318, some 2319]
theorem p1_n2316 : p1_a2316.length = 3 := by decide +kernel
def p1_a2317 : List Int32 := (List.replicate 24 0).set 0 (2)
theorem p1_n2317 : p1_a2317.length = 24 := by decide +kernel
def p1_a2318 : List Int32 := (List.replicate 24 0).set 0 (2)
theorem p1_n2318 : p1_a2318.length = 24 := by decide +kernel
def p1_a2319 : List Int32 := (List.replicate 24 0).set 0 (2)
theorem p1_n2319 : p1_a2319.length = 24 := by decide +kernel

/-! THE PROGRAM'S TABLES, and that they are right -/
def hb_TB : List Cond := lw_tbl.filter goodWord
theorem hb_w (i : Nat) {w : Cond} (h : lw_tbl[i]? = some w ∧ goodWord w = true) : w ∈ hb_TB := List.mem_filter.mpr ⟨List.mem_of_getElem? h.1, h.2⟩
theorem hb_w0 (i : Nat) {w : Cond} (h : (k2_sels lw_privs)[i]? = some w ∧ goodWord w = true) : w ∈ hb_TB := List.mem_filter.mpr ⟨List.mem_append_left _ (List.mem_of_getElem? h.1), h.2⟩
theorem hb_w1 (i : Nat) {w : Cond} (h : tables_1_1[i]? = some w ∧ goodWord w = true) : w ∈ hb_TB := List.mem_filter.mpr ⟨List.mem_append_right _ (show w ∈ tables_1 from (List.mem_append_left _ (List.mem_of_getElem? h.1))), h.2⟩
theorem hb_w2 (i : Nat) {w : Cond} (h : tables_1_2[i]? = some w ∧ goodWord w = true) : w ∈ hb_TB := List.mem_filter.mpr ⟨List.mem_append_right _ (show w ∈ tables_1 from (List.mem_append_right _ (List.mem_append_left _ (List.mem_of_getElem? h.1)))), h.2⟩
theorem hb_w3 (i : Nat) {w : Cond} (h : tables_1_3[i]? = some w ∧ goodWord w = true) : w ∈ hb_TB := List.mem_filter.mpr ⟨List.mem_append_right _ (show w ∈ tables_1 from (List.mem_append_right _ (List.mem_append_right _ (List.mem_append_left _ (List.mem_of_getElem? h.1))))), h.2⟩
theorem hb_w4 (i : Nat) {w : Cond} (h : tables_1_4[i]? = some w ∧ goodWord w = true) : w ∈ hb_TB := List.mem_filter.mpr ⟨List.mem_append_right _ (show w ∈ tables_1 from (List.mem_append_right _ (List.mem_append_right _ (List.mem_append_right _ (List.mem_append_left _ (List.mem_of_getElem? h.1)))))), h.2⟩
theorem hb_w5 (i : Nat) {w : Cond} (h : tables_1_5[i]? = some w ∧ goodWord w = true) : w ∈ hb_TB := List.mem_filter.mpr ⟨List.mem_append_right _ (show w ∈ tables_1 from (List.mem_append_right _ (List.mem_append_right _ (List.mem_append_right _ (List.mem_append_right _ (List.mem_append_left _ (List.mem_of_getElem? h.1))))))), h.2⟩
theorem hb_w6 (i : Nat) {w : Cond} (h : tables_1_6[i]? = some w ∧ goodWord w = true) : w ∈ hb_TB := List.mem_filter.mpr ⟨List.mem_append_right _ (show w ∈ tables_1 from (List.mem_append_right _ (List.mem_append_right _ (List.mem_append_right _ (List.mem_append_right _ (List.mem_append_right _ (List.mem_append_left _ (List.mem_of_getElem? h.1)))))))), h.2⟩
theorem hb_w7 (i : Nat) {w : Cond} (h : tables_1_7[i]? = some w ∧ goodWord w = true) : w ∈ hb_TB := List.mem_filter.mpr ⟨List.mem_append_right _ (show w ∈ tables_1 from (List.mem_append_right _ (List.mem_append_right _ (List.mem_append_right _ (List.mem_append_right _ (List.mem_append_right _ (List.mem_append_right _ (List.mem_append_left _ (List.mem_of_getElem? h.1))))))))), h.2⟩
theorem hb_w8 (i : Nat) {w : Cond} (h : tables_1_8[i]? = some w ∧ goodWord w = true) : w ∈ hb_TB := List.mem_filter.mpr ⟨List.mem_append_right _ (show w ∈ tables_1 from (List.mem_append_right _ (List.mem_append_right _ (List.mem_append_right _ (List.mem_append_right _ (List.mem_append_right _ (List.mem_append_right _ (List.mem_append_right _ (List.mem_append_left _ (List.mem_of_getElem? h.1)))))))))), h.2⟩
theorem hb_w9 (i : Nat) {w : Cond} (h : tables_1_9[i]? = some w ∧ goodWord w = true) : w ∈ hb_TB := List.mem_filter.mpr ⟨List.mem_append_right _ (show w ∈ tables_1 from (List.mem_append_right _ (List.mem_append_right _ (List.mem_append_right _ (List.mem_append_right _ (List.mem_append_right _ (List.mem_append_right _ (List.mem_append_right _ (List.mem_append_right _ (List.mem_append_left _ (List.mem_of_getElem? h.1))))))))))), h.2⟩
theorem hb_w10 (i : Nat) {w : Cond} (h : tables_1_10[i]? = some w ∧ goodWord w = true) : w ∈ hb_TB := List.mem_filter.mpr ⟨List.mem_append_right _ (show w ∈ tables_1 from (List.mem_append_right _ (List.mem_append_right _ (List.mem_append_right _ (List.mem_append_right _ (List.mem_append_right _ (List.mem_append_right _ (List.mem_append_right _ (List.mem_append_right _ (List.mem_append_right _ (List.mem_append_left _ (List.mem_of_getElem? h.1)))))))))))), h.2⟩
theorem hb_w11 (i : Nat) {w : Cond} (h : tables_1_11[i]? = some w ∧ goodWord w = true) : w ∈ hb_TB := List.mem_filter.mpr ⟨List.mem_append_right _ (show w ∈ tables_1 from (List.mem_append_right _ (List.mem_append_right _ (List.mem_append_right _ (List.mem_append_right _ (List.mem_append_right _ (List.mem_append_right _ (List.mem_append_right _ (List.mem_append_right _ (List.mem_append_right _ (List.mem_append_right _ (List.mem_append_left _ (List.mem_of_getElem? h.1))))))))))))), h.2⟩
theorem hb_w12 (i : Nat) {w : Cond} (h : tables_1_12[i]? = some w ∧ goodWord w = true) : w ∈ hb_TB := List.mem_filter.mpr ⟨List.mem_append_right _ (show w ∈ tables_1 from (List.mem_append_right _ (List.mem_append_right _ (List.mem_append_right _ (List.mem_append_right _ (List.mem_append_right _ (List.mem_append_right _ (List.mem_append_right _ (List.mem_append_right _ (List.mem_append_right _ (List.mem_append_right _ (List.mem_append_right _ (List.mem_append_left _ (List.mem_of_getElem? h.1)))))))))))))), h.2⟩
theorem hb_w13 (i : Nat) {w : Cond} (h : tables_1_13[i]? = some w ∧ goodWord w = true) : w ∈ hb_TB := List.mem_filter.mpr ⟨List.mem_append_right _ (show w ∈ tables_1 from (List.mem_append_right _ (List.mem_append_right _ (List.mem_append_right _ (List.mem_append_right _ (List.mem_append_right _ (List.mem_append_right _ (List.mem_append_right _ (List.mem_append_right _ (List.mem_append_right _ (List.mem_append_right _ (List.mem_append_right _ (List.mem_append_right _ (List.mem_append_left _ (List.mem_of_getElem? h.1))))))))))))))), h.2⟩
theorem hb_w14 (i : Nat) {w : Cond} (h : tables_1_14[i]? = some w ∧ goodWord w = true) : w ∈ hb_TB := List.mem_filter.mpr ⟨List.mem_append_right _ (show w ∈ tables_1 from (List.mem_append_right _ (List.mem_append_right _ (List.mem_append_right _ (List.mem_append_right _ (List.mem_append_right _ (List.mem_append_right _ (List.mem_append_right _ (List.mem_append_right _ (List.mem_append_right _ (List.mem_append_right _ (List.mem_append_right _ (List.mem_append_right _ (List.mem_append_right _ (List.mem_of_getElem? h.1))))))))))))))), h.2⟩
theorem hb_sub {ws : List Cond} (ps : List Nat) (h : ws.length ≤ ps.length ∧ ∀ q ∈ ws.zip ps, lw_tbl[q.2]? = some q.1 ∧ goodWord q.1 = true) : ∀ w ∈ ws, w ∈ hb_TB := by
  intro w hw
  obtain ⟨i, hi⟩ := List.getElem?_of_mem hw
  have hl := (List.getElem?_eq_some_iff.mp hi).1
  have hp : i < ps.length := Nat.lt_of_lt_of_le hl h.1
  have hz : (ws.zip ps)[i]? = some (w, ps[i]) := by
    rw [List.getElem?_zip_eq_some]
    exact ⟨hi, List.getElem?_eq_getElem hp⟩
  obtain ⟨h1, h2⟩ := h.2 _ (List.mem_of_getElem? hz)
  exact hb_w _ ⟨h1, h2⟩
theorem hb_good : ∀ w ∈ hb_TB, ab_good w := fun w hw => good_of_word (List.mem_filter.mp hw).2

theorem hb_inJx4a65c : ∀ w ∈ u_ws RJx4a65c TJx4a65c 3, w ∈ hb_TB := hb_sub [1997, 1993, 1995] (by decide +kernel)
theorem hb_inX0 : ∀ w ∈ u_ws RX0 TX0 14, w ∈ hb_TB := hb_sub [903, 905, 907, 909, 911, 913, 915, 917, 919, 921, 923, 925, 927, 929] (by decide +kernel)
theorem hb_inX1 : ∀ w ∈ u_ws RX1 TX1 5, w ∈ hb_TB := hb_sub [401, 403, 405, 407, 409] (by decide +kernel)
theorem hb_inX2 : ∀ w ∈ u_ws RX2 TX2 8, w ∈ hb_TB := hb_sub [273, 275, 277, 279, 281, 283, 285, 287] (by decide +kernel)
theorem hb_inX3 : ∀ w ∈ u_ws RX3 TX3 13, w ∈ hb_TB := hb_sub [805, 807, 809, 811, 813, 815, 817, 819, 821, 823, 825, 827, 829] (by decide +kernel)
theorem hb_inX4 : ∀ w ∈ u_ws RX4 TX4 19, w ∈ hb_TB := hb_sub [964, 966, 968, 970, 972, 974, 976, 978, 980, 982, 984, 986, 988, 990, 992, 994, 996, 998, 1000] (by decide +kernel)
theorem hb_inX5 : ∀ w ∈ u_ws RX5 TX5 14, w ∈ hb_TB := hb_sub [354, 356, 358, 360, 362, 364, 366, 368, 370, 372, 374, 376, 378, 380] (by decide +kernel)
theorem hb_inX6 : ∀ w ∈ u_ws RX6 TX6 3, w ∈ hb_TB := hb_sub [779, 781, 783] (by decide +kernel)
theorem hb_inX7 : ∀ w ∈ u_ws RX7 TX7 13, w ∈ hb_TB := hb_sub [698, 700, 702, 704, 706, 708, 710, 712, 714, 716, 718, 720, 722] (by decide +kernel)
theorem hb_inX8 : ∀ w ∈ u_ws RX8 TX8 5, w ∈ hb_TB := hb_sub [673, 675, 677, 679, 681] (by decide +kernel)
theorem hb_inX9 : ∀ w ∈ u_ws RX9 TX9 12, w ∈ hb_TB := hb_sub [751, 753, 755, 757, 759, 761, 763, 765, 767, 769, 771, 773] (by decide +kernel)
theorem hb_inX10 : ∀ w ∈ u_ws RX10 TX10 12, w ∈ hb_TB := hb_sub [853, 855, 857, 859, 861, 863, 865, 867, 869, 871, 873, 875] (by decide +kernel)
theorem hb_inX11 : ∀ w ∈ u_ws RX11 TX11 18, w ∈ hb_TB := hb_sub [613, 615, 617, 619, 621, 623, 625, 627, 629, 631, 633, 635, 637, 639, 641, 643, 645, 647] (by decide +kernel)
theorem hb_inX12 : ∀ w ∈ u_ws RX12 TX12 14, w ∈ hb_TB := hb_sub [1017, 1019, 1021, 1023, 1025, 1027, 1029, 1031, 1033, 1035, 1037, 1039, 1041, 1043] (by decide +kernel)
theorem hb_inX13 : ∀ w ∈ u_ws RX13 TX13 4, w ∈ hb_TB := hb_sub [2065, 2067, 2069, 2071] (by decide +kernel)
theorem hb_inX14 : ∀ w ∈ u_ws RX14 TX14 4, w ∈ hb_TB := hb_sub [2179, 2181, 2183, 2185] (by decide +kernel)
theorem hb_inX15 : ∀ w ∈ u_ws RX15 TX15 6, w ∈ hb_TB := hb_sub [2154, 2155, 2156, 2157, 2158, 2163] (by decide +kernel)
theorem hb_inX16 : ∀ w ∈ u_ws RX16 TX16 6, w ∈ hb_TB := hb_sub [2131, 2132, 2133, 2134, 2135, 2148] (by decide +kernel)
theorem hb_inX17 : ∀ w ∈ u_ws RX17 TX17 6, w ∈ hb_TB := hb_sub [2040, 2042, 2044, 2046, 2048, 2050] (by decide +kernel)
theorem hb_inX18 : ∀ w ∈ u_ws RX18 TX18 11, w ∈ hb_TB := hb_sub [2094, 2096, 2098, 2100, 2102, 2104, 2106, 2108, 2110, 2112, 2114] (by decide +kernel)
theorem hb_inX19 : ∀ w ∈ u_ws RX19 TX19 2, w ∈ hb_TB := hb_sub [2024, 2026] (by decide +kernel)
theorem hb_inX20 : ∀ w ∈ u_ws RX20 TX20 12, w ∈ hb_TB := hb_sub [2836, 2838, 2840, 2842, 2844, 2846, 2848, 2850, 2852, 2854, 2856, 2858] (by decide +kernel)
theorem hb_inX21 : ∀ w ∈ u_ws RX21 TX21 2, w ∈ hb_TB := hb_sub [2003, 2005] (by decide +kernel)
theorem hb_inX22 : ∀ w ∈ u_ws RX22 TX22 7, w ∈ hb_TB := hb_sub [2703, 2704, 2705, 2706, 2707, 2716, 2714] (by decide +kernel)
theorem hb_inX23 : ∀ w ∈ u_ws RX23 TX23 115, w ∈ hb_TB := hb_sub [2348, 2350, 2352, 2354, 2356, 2358, 2360, 2362, 2364, 2366, 2368, 2370, 2372, 2374, 2376, 2378, 2380, 2382, 2384, 2386, 2388, 2390, 2392, 2394, 2396, 2398, 2400, 2402, 2404, 2406, 2408, 2410, 2412, 2414, 2416, 2418, 2420, 2422, 2424, 2426, 2428, 2430, 2432, 2434, 2436, 2438, 2440, 2442, 2444, 2446, 2448, 2450, 2452, 2454, 2456, 2458, 2460, 2462, 2464, 2466, 2468, 2470, 2472, 2474, 2476, 2478, 2480, 2482, 2484, 2486, 2488, 2490, 2492, 2494, 2496, 2498, 2500, 2502, 2504, 2506, 2508, 2510, 2512, 2514, 2516, 2518, 2520, 2522, 2524, 2526, 2528, 2530, 2532, 2534, 2536, 2538, 2540, 2542, 2544, 2546, 2548, 2550, 2552, 2554, 2556, 2558, 2560, 2562, 2564, 2566, 2568, 2570, 2572, 2574, 2576] (by decide +kernel)

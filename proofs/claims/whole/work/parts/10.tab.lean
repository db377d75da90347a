/-! THE PROGRAM'S TABLES, and that they are right -/
def hb_TB : List Cond := lw_tbl.filter goodWord
theorem hb_w (i : Nat) {w : Cond} (h : lw_tbl[i]? = some w ∧ goodWord w = true) : w ∈ hb_TB := List.mem_filter.mpr ⟨List.mem_of_getElem? h.1, h.2⟩
theorem hb_w0 (i : Nat) {w : Cond} (h : (k2_sels lw_privs)[i]? = some w ∧ goodWord w = true) : w ∈ hb_TB := List.mem_filter.mpr ⟨List.mem_append_left _ (List.mem_of_getElem? h.1), h.2⟩
theorem hb_w1 (i : Nat) {w : Cond} (h : tables_1_1[i]? = some w ∧ goodWord w = true) : w ∈ hb_TB := List.mem_filter.mpr ⟨List.mem_append_right _ (show w ∈ tables_1 from (List.mem_append_left _ (List.mem_of_getElem? h.1))), h.2⟩
theorem hb_w2 (i : Nat) {w : Cond} (h : tables_1_2[i]? = some w ∧ goodWord w = true) : w ∈ hb_TB := List.mem_filter.mpr ⟨List.mem_append_right _ (show w ∈ tables_1 from (List.mem_append_right _ (List.mem_append_left _ (List.mem_of_getElem? h.1)))), h.2⟩
theorem hb_w3 (i : Nat) {w : Cond} (h : tables_1_3[i]? = some w ∧ goodWord w = true) : w ∈ hb_TB := List.mem_filter.mpr ⟨List.mem_append_right _ (show w ∈ tables_1 from (List.mem_append_right _ (List.mem_append_right _ (List.mem_append_left _ (List.mem_of_getElem? h.1))))), h.2⟩
theorem hb_w4 (i : Nat) {w : Cond} (h : tables_1_4[i]? = some w ∧ goodWord w = true) : w ∈ hb_TB := List.mem_filter.mpr ⟨List.mem_append_right _ (show w ∈ tables_1 from (List.mem_append_right _ (List.mem_append_right _ (List.mem_append_right _ (List.mem_append_left _ (List.mem_of_getElem? h.1)))))), h.2⟩
theorem hb_w5 (i : Nat) {w : Cond} (h : tables_1_5[i]? = some w ∧ goodWord w = true) : w ∈ hb_TB := List.mem_filter.mpr ⟨List.mem_append_right _ (show w ∈ tables_1 from (List.mem_append_right _ (List.mem_append_right _ (List.mem_append_right _ (List.mem_append_right _ (List.mem_append_left _ (List.mem_of_getElem? h.1))))))), h.2⟩
theorem hb_w6 (i : Nat) {w : Cond} (h : tables_1_6[i]? = some w ∧ goodWord w = true) : w ∈ hb_TB := List.mem_filter.mpr ⟨List.mem_append_right _ (show w ∈ tables_1 from (List.mem_append_right _ (List.mem_append_right _ (List.mem_append_right _ (List.mem_append_right _ (List.mem_append_right _ (List.mem_append_left _ (List.mem_of_getElem? h.1)))))))), h.2⟩
theorem hb_w7 (i : Nat) {w : Cond} (h : tables_1_7[i]? = some w ∧ goodWord w = true) : w ∈ hb_TB := List.mem_filter.mpr ⟨List.mem_append_right _ (show w ∈ tables_1 from (List.mem_append_right _ (List.mem_append_right _ (List.mem_append_right _ (List.mem_append_right _ (List.mem_append_right _ (List.mem_append_right _ (List.mem_append_left _ (List.mem_of_getElem? h.1))))))))), h.2⟩
theorem hb_w8 (i : Nat) {w : Cond} (h : tables_1_8[i]? = some w ∧ goodWord w = true) : w ∈ hb_TB := List.mem_filter.mpr ⟨List.mem_append_right _ (show w ∈ tables_1 from (List.mem_append_right _ (List.mem_append_right _ (List.mem_append_right _ (List.mem_append_right _ (List.mem_append_right _ (List.mem_append_right _ (List.mem_append_right _ (List.mem_append_left _ (List.mem_of_getElem? h.1)))))))))), h.2⟩
theorem hb_w9 (i : Nat) {w : Cond} (h : tables_1_9[i]? = some w ∧ goodWord w = true) : w ∈ hb_TB := List.mem_filter.mpr ⟨List.mem_append_right _ (show w ∈ tables_1 from (List.mem_append_right _ (List.mem_append_right _ (List.mem_append_right _ (List.mem_append_right _ (List.mem_append_right _ (List.mem_append_right _ (List.mem_append_right _ (List.mem_append_right _ (List.mem_append_left _ (List.mem_of_getElem? h.1))))))))))), h.2⟩
theorem hb_w10 (i : Nat) {w : Cond} (h : tables_1_10[i]? = some w ∧ goodWord w = true) : w ∈ hb_TB := List.mem_filter.mpr ⟨List.mem_append_right _ (show w ∈ tables_1 from (List.mem_append_right _ (List.mem_append_right _ (List.mem_append_right _ (List.mem_append_right _ (List.mem_append_right _ (List.mem_append_right _ (List.mem_append_right _ (List.mem_append_right _ (List.mem_append_right _ (List.mem_append_left _ (List.mem_of_getElem? h.1)))))))))))), h.2⟩
theorem hb_w11 (i : Nat) {w : Cond} (h : tables_1_11[i]? = some w ∧ goodWord w = true) : w ∈ hb_TB := List.mem_filter.mpr ⟨List.mem_append_right _ (show w ∈ tables_1 from (List.mem_append_right _ (List.mem_append_right _ (List.mem_append_right _ (List.mem_append_right _ (List.mem_append_right _ (List.mem_append_right _ (List.mem_append_right _ (List.mem_append_right _ (List.mem_append_right _ (List.mem_append_right _ (List.mem_append_left _ (List.mem_of_getElem? h.1))))))))))))), h.2⟩
theorem hb_w12 (i : Nat) {w : Cond} (h : tables_1_12[i]? = some w ∧ goodWord w = true) : w ∈ hb_TB := List.mem_filter.mpr ⟨List.mem_append_right _ (show w ∈ tables_1 from (List.mem_append_right _ (List.mem_append_right _ (List.mem_append_right _ (List.mem_append_right _ (List.mem_append_right _ (List.mem_append_right _ (List.mem_append_right _ (List.mem_append_right _ (List.mem_append_right _ (List.mem_append_right _ (List.mem_append_right _ (List.mem_append_left _ (List.mem_of_getElem? h.1)))))))))))))), h.2⟩
theorem hb_w13 (i : Nat) {w : Cond} (h : tables_1_13[i]? = some w ∧ goodWord w = true) : w ∈ hb_TB := List.mem_filter.mpr ⟨List.mem_append_right _ (show w ∈ tables_1 from (List.mem_append_right _ (List.mem_append_right _ (List.mem_append_right _ (List.mem_append_right _ (List.mem_append_right _ (List.mem_append_right _ (List.mem_append_right _ (List.mem_append_right _ (List.mem_append_right _ (List.mem_append_right _ (List.mem_append_right _ (List.mem_append_right _ (List.mem_append_left _ (List.mem_of_getElem? h.1))))))))))))))), h.2⟩
theorem hb_w14 (i : Nat) {w : Cond} (h : tables_1_14[i]? = some w ∧ goodWord w = true) : w ∈ hb_TB := List.mem_filter.mpr ⟨List.mem_append_right _ (show w ∈ tables_1 from (List.mem_append_right _ (List.mem_append_right _ (List.mem_append_right _ (List.mem_append_right _ (List.mem_append_right _ (List.mem_append_right _ (List.mem_append_right _ (List.mem_append_right _ (List.mem_append_right _ (List.mem_append_right _ (List.mem_append_right _ (List.mem_append_right _ (List.mem_append_right _ (List.mem_of_getElem? h.1))))))))))))))), h.2⟩
theorem hb_sub {ws : List Cond} (ps : List Nat) (h : ws.length ≤ ps.length ∧ ∀ q ∈ ws.zip ps, lw_tbl[q.2]? = some q.1 ∧ goodWord q.1 = true) : ∀ w ∈ ws, w ∈ hb_TB := by
  intro w hw
  obtain ⟨i, hi⟩ := List.getElem?_of_mem hw
  have hl := (List.getElem?_eq_some_iff.mp hi).1
  have hp : i < ps.length := Nat.lt_of_lt_of_le hl h.1
  have hz : (ws.zip ps)[i]? = some (w, ps[i]) := by
    rw [List.getElem?_zip_eq_some]
    exact ⟨hi, List.getElem?_eq_getElem hp⟩
  obtain ⟨h1, h2⟩ := h.2 _ (List.mem_of_getElem? hz)
  exact hb_w _ ⟨h1, h2⟩
theorem hb_good : ∀ w ∈ hb_TB, ab_good w := fun w hw => good_of_word (List.mem_filter.mp hw).2

theorem hb_inJx4a65c : ∀ w ∈ u_ws RJx4a65c TJx4a65c 3, w ∈ hb_TB := hb_sub [2021, 2017, 2019] (by decide +kernel)
theorem hb_inX0 : ∀ w ∈ u_ws RX0 TX0 17, w ∈ hb_TB := hb_sub [913, 915, 917, 919, 921, 923, 925, 927, 929, 931, 933, 935, 937, 939, 941, 943, 945] (by decide +kernel)
theorem hb_inX1 : ∀ w ∈ u_ws RX1 TX1 5, w ∈ hb_TB := hb_sub [404, 406, 408, 410, 412] (by decide +kernel)
theorem hb_inX2 : ∀ w ∈ u_ws RX2 TX2 8, w ∈ hb_TB := hb_sub [275, 277, 279, 281, 283, 285, 287, 289] (by decide +kernel)
theorem hb_inX3 : ∀ w ∈ u_ws RX3 TX3 13, w ∈ hb_TB := hb_sub [812, 814, 816, 818, 820, 822, 824, 826, 828, 830, 832, 834, 836] (by decide +kernel)
theorem hb_inX4 : ∀ w ∈ u_ws RX4 TX4 19, w ∈ hb_TB := hb_sub [980, 982, 984, 986, 988, 990, 992, 994, 996, 998, 1000, 1002, 1004, 1006, 1008, 1010, 1012, 1014, 1016] (by decide +kernel)
theorem hb_inX5 : ∀ w ∈ u_ws RX5 TX5 14, w ∈ hb_TB := hb_sub [357, 359, 361, 363, 365, 367, 369, 371, 373, 375, 377, 379, 381, 383] (by decide +kernel)
theorem hb_inX6 : ∀ w ∈ u_ws RX6 TX6 4, w ∈ hb_TB := hb_sub [784, 786, 788, 790] (by decide +kernel)
theorem hb_inX7 : ∀ w ∈ u_ws RX7 TX7 13, w ∈ hb_TB := hb_sub [702, 704, 706, 708, 710, 712, 714, 716, 718, 720, 722, 724, 726] (by decide +kernel)
theorem hb_inX8 : ∀ w ∈ u_ws RX8 TX8 5, w ∈ hb_TB := hb_sub [677, 679, 681, 683, 685] (by decide +kernel)
theorem hb_inX9 : ∀ w ∈ u_ws RX9 TX9 12, w ∈ hb_TB := hb_sub [755, 757, 759, 761, 763, 765, 767, 769, 771, 773, 775, 777] (by decide +kernel)
theorem hb_inX10 : ∀ w ∈ u_ws RX10 TX10 12, w ∈ hb_TB := hb_sub [860, 862, 864, 866, 868, 870, 872, 874, 876, 878, 880, 882] (by decide +kernel)
theorem hb_inX11 : ∀ w ∈ u_ws RX11 TX11 18, w ∈ hb_TB := hb_sub [617, 619, 621, 623, 625, 627, 629, 631, 633, 635, 637, 639, 641, 643, 645, 647, 649, 651] (by decide +kernel)
theorem hb_inX12 : ∀ w ∈ u_ws RX12 TX12 14, w ∈ hb_TB := hb_sub [1033, 1035, 1037, 1039, 1041, 1043, 1045, 1047, 1049, 1051, 1053, 1055, 1057, 1059] (by decide +kernel)
theorem hb_inX13 : ∀ w ∈ u_ws RX13 TX13 4, w ∈ hb_TB := hb_sub [2089, 2091, 2093, 2095] (by decide +kernel)
theorem hb_inX14 : ∀ w ∈ u_ws RX14 TX14 4, w ∈ hb_TB := hb_sub [2203, 2205, 2207, 2209] (by decide +kernel)
theorem hb_inX15 : ∀ w ∈ u_ws RX15 TX15 6, w ∈ hb_TB := hb_sub [2178, 2179, 2180, 2181, 2182, 2187] (by decide +kernel)
theorem hb_inX16 : ∀ w ∈ u_ws RX16 TX16 6, w ∈ hb_TB := hb_sub [2155, 2156, 2157, 2158, 2159, 2172] (by decide +kernel)
theorem hb_inX17 : ∀ w ∈ u_ws RX17 TX17 6, w ∈ hb_TB := hb_sub [2064, 2066, 2068, 2070, 2072, 2074] (by decide +kernel)
theorem hb_inX18 : ∀ w ∈ u_ws RX18 TX18 11, w ∈ hb_TB := hb_sub [2118, 2120, 2122, 2124, 2126, 2128, 2130, 2132, 2134, 2136, 2138] (by decide +kernel)
theorem hb_inX19 : ∀ w ∈ u_ws RX19 TX19 2, w ∈ hb_TB := hb_sub [2048, 2050] (by decide +kernel)
theorem hb_inX20 : ∀ w ∈ u_ws RX20 TX20 12, w ∈ hb_TB := hb_sub [2860, 2862, 2864, 2866, 2868, 2870, 2872, 2874, 2876, 2878, 2880, 2882] (by decide +kernel)
theorem hb_inX21 : ∀ w ∈ u_ws RX21 TX21 2, w ∈ hb_TB := hb_sub [2027, 2029] (by decide +kernel)
theorem hb_inX22 : ∀ w ∈ u_ws RX22 TX22 7, w ∈ hb_TB := hb_sub [2727, 2728, 2729, 2730, 2731, 2740, 2738] (by decide +kernel)
theorem hb_inX23 : ∀ w ∈ u_ws RX23 TX23 115, w ∈ hb_TB := hb_sub [2372, 2374, 2376, 2378, 2380, 2382, 2384, 2386, 2388, 2390, 2392, 2394, 2396, 2398, 2400, 2402, 2404, 2406, 2408, 2410, 2412, 2414, 2416, 2418, 2420, 2422, 2424, 2426, 2428, 2430, 2432, 2434, 2436, 2438, 2440, 2442, 2444, 2446, 2448, 2450, 2452, 2454, 2456, 2458, 2460, 2462, 2464, 2466, 2468, 2470, 2472, 2474, 2476, 2478, 2480, 2482, 2484, 2486, 2488, 2490, 2492, 2494, 2496, 2498, 2500, 2502, 2504, 2506, 2508, 2510, 2512, 2514, 2516, 2518, 2520, 2522, 2524, 2526, 2528, 2530, 2532, 2534, 2536, 2538, 2540, 2542, 2544, 2546, 2548, 2550, 2552, 2554, 2556, 2558, 2560, 2562, 2564, 2566, 2568, 2570, 2572, 2574, 2576, 2578, 2580, 2582, 2584, 2586, 2588, 2590, 2592, 2594, 2596, 2598, 2600] (by decide +kernel)

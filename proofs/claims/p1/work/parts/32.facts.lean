/-! both objects, new; the facts of their heap -/
theorem hb_noX : ∀ (y : Nat) (M : ab_MI), hb_M y = some M → hb_MX y = none := by
  intro y M h
  unfold hb_MX
  split
  · exact absurd (h.symm.trans (show hb_M 6088 = none from rfl)) (fun q => by cases q)
  · exact absurd (h.symm.trans (show hb_M 6089 = none from rfl)) (fun q => by cases q)
  · exact absurd (h.symm.trans (show hb_M 6090 = none from rfl)) (fun q => by cases q)
  · exact absurd (h.symm.trans (show hb_M 6091 = none from rfl)) (fun q => by cases q)
  · exact absurd (h.symm.trans (show hb_M 6092 = none from rfl)) (fun q => by cases q)
  · exact absurd (h.symm.trans (show hb_M 6093 = none from rfl)) (fun q => by cases q)
  · exact absurd (h.symm.trans (show hb_M 13512 = none from rfl)) (fun q => by cases q)
  · exact absurd (h.symm.trans (show hb_M 13513 = none from rfl)) (fun q => by cases q)
  · exact absurd (h.symm.trans (show hb_M 13514 = none from rfl)) (fun q => by cases q)
  · exact absurd (h.symm.trans (show hb_M 13515 = none from rfl)) (fun q => by cases q)
  · exact absurd (h.symm.trans (show hb_M 13516 = none from rfl)) (fun q => by cases q)
  · exact absurd (h.symm.trans (show hb_M 13517 = none from rfl)) (fun q => by cases q)
  · exact absurd (h.symm.trans (show hb_M 13518 = none from rfl)) (fun q => by cases q)
  · exact absurd (h.symm.trans (show hb_M 13519 = none from rfl)) (fun q => by cases q)
  · exact absurd (h.symm.trans (show hb_M 13520 = none from rfl)) (fun q => by cases q)
  · exact absurd (h.symm.trans (show hb_M 13521 = none from rfl)) (fun q => by cases q)
  · exact absurd (h.symm.trans (show hb_M 13522 = none from rfl)) (fun q => by cases q)
  · exact absurd (h.symm.trans (show hb_M 13523 = none from rfl)) (fun q => by cases q)
  · exact absurd (h.symm.trans (show hb_M 13524 = none from rfl)) (fun q => by cases q)
  · exact absurd (h.symm.trans (show hb_M 13525 = none from rfl)) (fun q => by cases q)
  · rfl
theorem hw_28_n : hw_28.length = 101 := by decide +kernel
theorem p1_newC {z4 z5 z6 : Value} {L : Nat} {xs : Nat → Int32} (h4 : z4 = .null ∨ z4 = .retAddr 4) : ab_ev (hb_Gz (some z4, some z5, some z6) (some (0, L, fun i => .int (xs i)))) hb_GT 2045 (mX12_init, []) 0 (lv_args 0 [.ref 0]) [] hw_27 (.inl none) hw_28 := by
  have e0 : ab_ev (hb_G z4) hb_GT 7 (mX12_init, []) 0 (lv_args 0 [.ref 0]) [] hw_27 (.inl none) hw_28 := ab_ev.of hb_noX (hb_new z4 h4) []
  have e1 := ab_ev.ext (s' := hb_Xs (some z4, some z5, some z6)) (a' := hb_Xa (some (0, L, fun i => .int (xs i)))) (fun o ix v h => hb_xmono (Or.inr rfl) (Or.inl rfl) (Or.inl rfl) h) hb_amono e0
  exact e1.up (by decide)
theorem p1_newM {z4 z5 z6 : Value} {L : Nat} {xs : Nat → Int32} (h4 : z4 = .null ∨ z4 = .retAddr 4) (h5 : z5 = .null ∨ z5 = .retAddr 5) (h6 : z6 = .null ∨ z6 = .retAddr 6) : ab_ev (hb_Gz (some z4, some z5, some z6) (some (0, L, fun i => .int (xs i)))) hb_GT 2045 (mX23_init, []) 0 (lv_args 0 [.ref 101]) [] (hw_28 ++ [.inr (.inr (24, hm_F0))]) (.inl none) (hw_28 ++ hm_M.map (ab_rnE (fun k => 101 + k))) := by
  have e := (hm_new (d := 2031) (L := L) (xs := xs) h4 h5 h6).behind (hb_pure h4 h5 h6) hw_28
  rw [hw_28_n] at e
  exact e
def p1_H : List ab_E := (hw_28 ++ hm_M.map (ab_rnE (fun k => 101 + k))) ++ [.inr (.inl (1, .inr (.inl (List.replicate 1 0))))]
theorem p1_H_n : p1_H.length = 3467 := by
  unfold p1_H
  rw [List.length_append, List.length_append, List.length_map, hw_28_n, hm_M_n]
  rfl
theorem ab_z_rn (f : Nat → Nat) (h : List ab_E) : ab_z (h.map (ab_rnE f)) = ab_z h := by
  unfold ab_z
  rw [List.map_map]
  congr 1
  exact List.map_congr_left fun e _ => ab_rnE_z f e
theorem p1_H_z : ab_z p1_H ≤ 400000 := by
  unfold p1_H
  rw [ab_z_app, ab_z_app, ab_z_rn]
  have a2 : ab_z hw_28 ≤ 100000 := by decide +kernel
  exact Nat.le_trans (Nat.add_le_add (Nat.add_le_add a2 hm_zM) (Nat.le_refl 1)) (by decide)
theorem p1_f0 : p1_H[0]? = some (.inr (.inr (13, p1_o0))) := ab_eqO_ok (by decide +kernel)
theorem p1_f1 : p1_H[1]? = some (.inr (.inr (12, p1_o1))) := ab_eqO_ok (by decide +kernel)
theorem p1_f2 : p1_H[2]? = some (.inr (.inr (3, p1_o2))) := ab_eqO_ok (by decide +kernel)
theorem p1_f3 : p1_H[3]? = some (.inr (.inl (3, .inl (p1_a3)))) := ab_eqO_ok (by decide +kernel)
theorem p1_f4 : p1_H[4]? = some (.inr (.inl (0, .inl (p1_a4)))) := ab_eqO_ok (by decide +kernel)
theorem p1_f5 : p1_H[5]? = some (.inr (.inl (0, .inl (p1_a5)))) := ab_eqO_ok (by decide +kernel)
theorem p1_f7 : p1_H[7]? = some (.inr (.inl (0, .inl (p1_a7)))) := ab_eqI_ok (by decide +kernel)
theorem p1_f10 : p1_H[10]? = some (.inr (.inr (6, p1_o10))) := ab_eqO_ok (by decide +kernel)
theorem p1_f24 : p1_H[24]? = some (.inr (.inr (2, p1_o24))) := ab_eqO_ok (by decide +kernel)
theorem p1_f25 : p1_H[25]? = some (.inr (.inl (0, .inl (List.replicate 1804 0)))) := ab_eqI_ok (by decide +kernel)
theorem p1_f26 : p1_H[26]? = some (.inr (.inl (0, .inl (List.replicate 1804 0)))) := ab_eqI_ok (by decide +kernel)
theorem p1_f27 : p1_H[27]? = some (.inr (.inl (0, .inl (List.replicate 1804 0)))) := ab_eqI_ok (by decide +kernel)
theorem p1_f28 : p1_H[28]? = some (.inr (.inl (0, .inl (p1_a28)))) := ab_eqO_ok (by decide +kernel)
theorem p1_f34 : p1_H[34]? = some (.inr (.inl (1, .inr (.inl (List.replicate 24 0))))) := ab_eqO_ok (by decide +kernel)
theorem p1_f35 : p1_H[35]? = some (.inr (.inl (1, .inr (.inl (List.replicate 24 0))))) := ab_eqO_ok (by decide +kernel)
theorem p1_f36 : p1_H[36]? = some (.inr (.inl (1, .inr (.inl (List.replicate 72 0))))) := ab_eqO_ok (by decide +kernel)
theorem p1_f37 : p1_H[37]? = some (.inr (.inl (1, .inr (.inl (List.replicate 72 0))))) := ab_eqO_ok (by decide +kernel)
theorem p1_f38 : p1_H[38]? = some (.inr (.inl (0, .inl (p1_a38)))) := ab_eqO_ok (by decide +kernel)
theorem p1_f39 : p1_H[39]? = some (.inr (.inl (0, .inl (List.replicate 5 0)))) := ab_eqO_ok (by decide +kernel)
theorem p1_f40 : p1_H[40]? = some (.inr (.inr (8, p1_o40))) := ab_eqO_ok (by decide +kernel)
theorem p1_f41 : p1_H[41]? = some (.inr (.inr (9, p1_o41))) := ab_eqO_ok (by decide +kernel)
theorem p1_f42 : p1_H[42]? = some (.inr (.inl (0, .inl (List.replicate 64 0)))) := ab_eqO_ok (by decide +kernel)
theorem p1_f43 : p1_H[43]? = some (.inr (.inl (0, .inl (List.replicate 64 0)))) := ab_eqO_ok (by decide +kernel)
theorem p1_f44 : p1_H[44]? = some (.inr (.inl (1, .inr (.inl (List.replicate 64 0))))) := ab_eqO_ok (by decide +kernel)
theorem p1_f45 : p1_H[45]? = some (.inr (.inl (1, .inr (.inl (List.replicate 64 0))))) := ab_eqO_ok (by decide +kernel)
theorem p1_f46 : p1_H[46]? = some (.inr (.inr (7, p1_o46))) := ab_eqO_ok (by decide +kernel)
theorem p1_f47 : p1_H[47]? = some (.inr (.inl (0, .inl (List.replicate 1024 0)))) := ab_eqI_ok (by decide +kernel)
theorem p1_f83 : p1_H[83]? = some (.inr (.inr (5, p1_o83))) := ab_eqO_ok (by decide +kernel)
theorem p1_f84 : p1_H[84]? = some (.inr (.inr (1, p1_o84))) := ab_eqO_ok (by decide +kernel)
theorem p1_f100 : p1_H[100]? = some (.inr (.inl (2, .inl (List.replicate 256 0)))) := ab_eqO_ok (by decide +kernel)
theorem p1_f101 : p1_H[101]? = some (.inr (.inr (24, p1_o101))) := ab_eqO_ok (by decide +kernel)
theorem p1_f102 : p1_H[102]? = some (.inr (.inl (4, .inr (.inr (p1_a102))))) := ab_eqO_ok (by decide +kernel)
theorem p1_f106 : p1_H[106]? = some (.inr (.inr (22, p1_o106))) := ab_eqO_ok (by decide +kernel)
theorem p1_f108 : p1_H[108]? = some (.inr (.inr (22, p1_o108))) := ab_eqO_ok (by decide +kernel)
theorem p1_f110 : p1_H[110]? = some (.inr (.inl (8, .inr (.inr (p1_a110))))) := ab_eqO_ok (by decide +kernel)
theorem p1_f111 : p1_H[111]? = some (.inr (.inl (0, .inl (List.replicate 24 0)))) := ab_eqO_ok (by decide +kernel)
theorem p1_f112 : p1_H[112]? = some (.inr (.inl (0, .inl (List.replicate 24 0)))) := ab_eqO_ok (by decide +kernel)
theorem p1_f136 : p1_H[136]? = some (.inr (.inl (0, .inl (p1_a136)))) := ab_eqO_ok (by decide +kernel)
theorem p1_f137 : p1_H[137]? = some (.inr (.inl (0, .inl (p1_a137)))) := ab_eqO_ok (by decide +kernel)
theorem p1_f138 : p1_H[138]? = some (.inr (.inl (2, .inl (List.replicate 8192 0)))) := ab_eqI_ok (by decide +kernel)
theorem p1_f1981 : p1_H[1981]? = some (.inr (.inl (12, .inr (.inr (p1_a1981))))) := ab_eqO_ok (by decide +kernel)
theorem p1_f1982 : p1_H[1982]? = some (.inr (.inl (3, .inl (p1_a1982)))) := ab_eqO_ok (by decide +kernel)
theorem p1_f1983 : p1_H[1983]? = some (.inr (.inl (3, .inl (p1_a1983)))) := ab_eqO_ok (by decide +kernel)
theorem p1_f1984 : p1_H[1984]? = some (.inr (.inl (3, .inl (p1_a1984)))) := ab_eqO_ok (by decide +kernel)
theorem p1_f2033 : p1_H[2033]? = some (.inr (.inl (0, .inl (p1_a2033)))) := ab_eqO_ok (by decide +kernel)
theorem p1_f2170 : p1_H[2170]? = some (.inr (.inl (0, .inl (List.replicate 8192 (-1))))) := ab_eqI_ok (by decide +kernel)
theorem p1_f2294 : p1_H[2294]? = some (.inr (.inr (18, p1_o2294))) := ab_eqO_ok (by decide +kernel)
theorem p1_f2295 : p1_H[2295]? = some (.inr (.inr (20, p1_o2295))) := ab_eqO_ok (by decide +kernel)
theorem p1_f2296 : p1_H[2296]? = some (.inr (.inl (2, .inl (p1_a2296)))) := ab_eqO_ok (by decide +kernel)
theorem p1_f2297 : p1_H[2297]? = some (.inr (.inl (0, .inl (List.replicate 24 0)))) := ab_eqO_ok (by decide +kernel)
theorem p1_f2298 : p1_H[2298]? = some (.inr (.inl (8, .inr (.inr (p1_a2298))))) := ab_eqO_ok (by decide +kernel)
theorem p1_f2299 : p1_H[2299]? = some (.inr (.inl (0, .inl (List.replicate 24 0)))) := ab_eqO_ok (by decide +kernel)
theorem p1_f2300 : p1_H[2300]? = some (.inr (.inl (0, .inl (List.replicate 24 0)))) := ab_eqO_ok (by decide +kernel)
theorem p1_f2301 : p1_H[2301]? = some (.inr (.inl (0, .inl (List.replicate 24 0)))) := ab_eqO_ok (by decide +kernel)
theorem p1_f2302 : p1_H[2302]? = some (.inr (.inl (0, .inl (List.replicate 3 (1))))) := ab_eqO_ok (by decide +kernel)
theorem p1_f2303 : p1_H[2303]? = some (.inr (.inr (18, p1_o2303))) := ab_eqO_ok (by decide +kernel)
theorem p1_f2304 : p1_H[2304]? = some (.inr (.inr (20, p1_o2304))) := ab_eqO_ok (by decide +kernel)
theorem p1_f2305 : p1_H[2305]? = some (.inr (.inl (2, .inl (p1_a2305)))) := ab_eqO_ok (by decide +kernel)
theorem p1_f2306 : p1_H[2306]? = some (.inr (.inl (0, .inl (List.replicate 24 0)))) := ab_eqO_ok (by decide +kernel)
theorem p1_f2307 : p1_H[2307]? = some (.inr (.inl (8, .inr (.inr (p1_a2307))))) := ab_eqO_ok (by decide +kernel)
theorem p1_f2308 : p1_H[2308]? = some (.inr (.inl (0, .inl (p1_a2308)))) := ab_eqO_ok (by decide +kernel)
theorem p1_f2309 : p1_H[2309]? = some (.inr (.inl (0, .inl (p1_a2309)))) := ab_eqO_ok (by decide +kernel)
theorem p1_f2310 : p1_H[2310]? = some (.inr (.inl (0, .inl (p1_a2310)))) := ab_eqO_ok (by decide +kernel)
theorem p1_f2311 : p1_H[2311]? = some (.inr (.inl (0, .inl (List.replicate 3 (2))))) := ab_eqO_ok (by decide +kernel)
theorem p1_f2312 : p1_H[2312]? = some (.inr (.inr (18, p1_o2312))) := ab_eqO_ok (by decide +kernel)
theorem p1_f2313 : p1_H[2313]? = some (.inr (.inr (20, p1_o2313))) := ab_eqO_ok (by decide +kernel)
theorem p1_f2314 : p1_H[2314]? = some (.inr (.inl (2, .inl (p1_a2314)))) := ab_eqO_ok (by decide +kernel)
theorem p1_f2315 : p1_H[2315]? = some (.inr (.inl (0, .inl (List.replicate 24 0)))) := ab_eqO_ok (by decide +kernel)
theorem p1_f2316 : p1_H[2316]? = some (.inr (.inl (8, .inr (.inr (p1_a2316))))) := ab_eqO_ok (by decide +kernel)
theorem p1_f2317 : p1_H[2317]? = some (.inr (.inl (0, .inl (p1_a2317)))) := ab_eqO_ok (by decide +kernel)
theorem p1_f2318 : p1_H[2318]? = some (.inr (.inl (0, .inl (p1_a2318)))) := ab_eqO_ok (by decide +kernel)
theorem p1_f2319 : p1_H[2319]? = some (.inr (.inl (0, .inl (p1_a2319)))) := ab_eqO_ok (by decide +kernel)
theorem p1_f2320 : p1_H[2320]? = some (.inr (.inl (0, .inl (List.replicate 3 (2))))) := ab_eqO_ok (by decide +kernel)
theorem p1_f3466 : p1_H[3466]? = some (.inr (.inl (1, .inr (.inl (List.replicate 1 0))))) := ab_eqO_ok (by decide +kernel)

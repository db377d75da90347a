/-! both objects, new; the facts of their heap -/
theorem hb_noX : ∀ (y : Nat) (M : ab_MI), hb_M y = some M → hb_MX y = none := by
  intro y M h
  unfold hb_MX
  split
  · exact absurd (h.symm.trans (show hb_M 6088 = none from rfl)) (fun q => by cases q)
  · exact absurd (h.symm.trans (show hb_M 6089 = none from rfl)) (fun q => by cases q)
  · exact absurd (h.symm.trans (show hb_M 6090 = none from rfl)) (fun q => by cases q)
  · exact absurd (h.symm.trans (show hb_M 6091 = none from rfl)) (fun q => by cases q)
  · exact absurd (h.symm.trans (show hb_M 6092 = none from rfl)) (fun q => by cases q)
  · exact absurd (h.symm.trans (show hb_M 6093 = none from rfl)) (fun q => by cases q)
  · exact absurd (h.symm.trans (show hb_M 13512 = none from rfl)) (fun q => by cases q)
  · exact absurd (h.symm.trans (show hb_M 13513 = none from rfl)) (fun q => by cases q)
  · exact absurd (h.symm.trans (show hb_M 13514 = none from rfl)) (fun q => by cases q)
  · exact absurd (h.symm.trans (show hb_M 13515 = none from rfl)) (fun q => by cases q)
  · exact absurd (h.symm.trans (show hb_M 13516 = none from rfl)) (fun q => by cases q)
  · exact absurd (h.symm.trans (show hb_M 13517 = none from rfl)) (fun q => by cases q)
  · exact absurd (h.symm.trans (show hb_M 13518 = none from rfl)) (fun q => by cases q)
  · exact absurd (h.symm.trans (show hb_M 13519 = none from rfl)) (fun q => by cases q)
  · exact absurd (h.symm.trans (show hb_M 13520 = none from rfl)) (fun q => by cases q)
  · exact absurd (h.symm.trans (show hb_M 13521 = none from rfl)) (fun q => by cases q)
  · exact absurd (h.symm.trans (show hb_M 13522 = none from rfl)) (fun q => by cases q)
  · exact absurd (h.symm.trans (show hb_M 13523 = none from rfl)) (fun q => by cases q)
  · exact absurd (h.symm.trans (show hb_M 13524 = none from rfl)) (fun q => by cases q)
  · exact absurd (h.symm.trans (show hb_M 13525 = none from rfl)) (fun q => by cases q)
  · rfl
theorem hw_28_n : hw_28.length = 102 := by decide +kernel
theorem p1_newC {z4 z5 z6 : Value} {L : Nat} {xs : Nat → Int32} (h4 : z4 = .null ∨ z4 = .retAddr 4) : ab_ev (hb_Gz (some z4, some z5, some z6) (some (0, L, fun i => .int (xs i)))) hb_GT 2045 (mX12_init, []) 0 (lv_args 0 [.ref 0]) [] hw_27 (.inl none) hw_28 := by
  have e0 : ab_ev (hb_G z4) hb_GT 7 (mX12_init, []) 0 (lv_args 0 [.ref 0]) [] hw_27 (.inl none) hw_28 := ab_ev.of hb_noX (hb_new z4 h4) []
  have e1 := ab_ev.ext (s' := hb_Xs (some z4, some z5, some z6)) (a' := hb_Xa (some (0, L, fun i => .int (xs i)))) (fun o ix v h => hb_xmono (Or.inr rfl) (Or.inl rfl) (Or.inl rfl) h) hb_amono e0
  exact e1.up (by decide)
theorem ab_z_rn (f : Nat → Nat) (h : List ab_E) : ab_z (h.map (ab_rnE f)) = ab_z h := by
  unfold ab_z
  rw [List.map_map]
  congr 1
  exact List.map_congr_left fun e _ => ab_rnE_z f e

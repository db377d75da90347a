/-! WHAT HOLDS AT THE LAW'S ENTRY -/
def hs_F : List Cond := flatC (Jvm.Cond.and given_1 narrow_1)
theorem hs_f (i : Nat) {w : Cond} (h : hs_F[i]? = some w) : w ∈ hs_F := List.mem_of_getElem? h
theorem hs_w1 (i : Nat) {w : Cond} (h : tables_1_1[i]? = some w) : w ∈ lw_tbl := List.mem_append_right _ (show w ∈ tables_1 from (List.mem_append_left _ (List.mem_of_getElem? h)))
theorem hs_w2 (i : Nat) {w : Cond} (h : tables_1_2[i]? = some w) : w ∈ lw_tbl := List.mem_append_right _ (show w ∈ tables_1 from (List.mem_append_right _ (List.mem_append_left _ (List.mem_of_getElem? h))))
theorem hs_w3 (i : Nat) {w : Cond} (h : tables_1_3[i]? = some w) : w ∈ lw_tbl := List.mem_append_right _ (show w ∈ tables_1 from (List.mem_append_right _ (List.mem_append_right _ (List.mem_append_left _ (List.mem_of_getElem? h)))))
theorem hs_w4 (i : Nat) {w : Cond} (h : tables_1_4[i]? = some w) : w ∈ lw_tbl := List.mem_append_right _ (show w ∈ tables_1 from (List.mem_append_right _ (List.mem_append_right _ (List.mem_append_right _ (List.mem_append_left _ (List.mem_of_getElem? h))))))
theorem hs_w5 (i : Nat) {w : Cond} (h : tables_1_5[i]? = some w) : w ∈ lw_tbl := List.mem_append_right _ (show w ∈ tables_1 from (List.mem_append_right _ (List.mem_append_right _ (List.mem_append_right _ (List.mem_append_right _ (List.mem_append_left _ (List.mem_of_getElem? h)))))))
theorem hs_w6 (i : Nat) {w : Cond} (h : tables_1_6[i]? = some w) : w ∈ lw_tbl := List.mem_append_right _ (show w ∈ tables_1 from (List.mem_append_right _ (List.mem_append_right _ (List.mem_append_right _ (List.mem_append_right _ (List.mem_append_right _ (List.mem_append_left _ (List.mem_of_getElem? h))))))))
theorem hs_w7 (i : Nat) {w : Cond} (h : tables_1_7[i]? = some w) : w ∈ lw_tbl := List.mem_append_right _ (show w ∈ tables_1 from (List.mem_append_right _ (List.mem_append_right _ (List.mem_append_right _ (List.mem_append_right _ (List.mem_append_right _ (List.mem_append_right _ (List.mem_append_left _ (List.mem_of_getElem? h)))))))))
theorem hs_w8 (i : Nat) {w : Cond} (h : tables_1_8[i]? = some w) : w ∈ lw_tbl := List.mem_append_right _ (show w ∈ tables_1 from (List.mem_append_right _ (List.mem_append_right _ (List.mem_append_right _ (List.mem_append_right _ (List.mem_append_right _ (List.mem_append_right _ (List.mem_append_right _ (List.mem_append_left _ (List.mem_of_getElem? h))))))))))
theorem hs_w9 (i : Nat) {w : Cond} (h : tables_1_9[i]? = some w) : w ∈ lw_tbl := List.mem_append_right _ (show w ∈ tables_1 from (List.mem_append_right _ (List.mem_append_right _ (List.mem_append_right _ (List.mem_append_right _ (List.mem_append_right _ (List.mem_append_right _ (List.mem_append_right _ (List.mem_append_right _ (List.mem_append_left _ (List.mem_of_getElem? h)))))))))))
theorem hs_w10 (i : Nat) {w : Cond} (h : tables_1_10[i]? = some w) : w ∈ lw_tbl := List.mem_append_right _ (show w ∈ tables_1 from (List.mem_append_right _ (List.mem_append_right _ (List.mem_append_right _ (List.mem_append_right _ (List.mem_append_right _ (List.mem_append_right _ (List.mem_append_right _ (List.mem_append_right _ (List.mem_append_right _ (List.mem_append_left _ (List.mem_of_getElem? h))))))))))))
theorem hs_w11 (i : Nat) {w : Cond} (h : tables_1_11[i]? = some w) : w ∈ lw_tbl := List.mem_append_right _ (show w ∈ tables_1 from (List.mem_append_right _ (List.mem_append_right _ (List.mem_append_right _ (List.mem_append_right _ (List.mem_append_right _ (List.mem_append_right _ (List.mem_append_right _ (List.mem_append_right _ (List.mem_append_right _ (List.mem_append_right _ (List.mem_append_left _ (List.mem_of_getElem? h)))))))))))))
theorem hs_w12 (i : Nat) {w : Cond} (h : tables_1_12[i]? = some w) : w ∈ lw_tbl := List.mem_append_right _ (show w ∈ tables_1 from (List.mem_append_right _ (List.mem_append_right _ (List.mem_append_right _ (List.mem_append_right _ (List.mem_append_right _ (List.mem_append_right _ (List.mem_append_right _ (List.mem_append_right _ (List.mem_append_right _ (List.mem_append_right _ (List.mem_append_right _ (List.mem_append_left _ (List.mem_of_getElem? h))))))))))))))
theorem hs_w13 (i : Nat) {w : Cond} (h : tables_1_13[i]? = some w) : w ∈ lw_tbl := List.mem_append_right _ (show w ∈ tables_1 from (List.mem_append_right _ (List.mem_append_right _ (List.mem_append_right _ (List.mem_append_right _ (List.mem_append_right _ (List.mem_append_right _ (List.mem_append_right _ (List.mem_append_right _ (List.mem_append_right _ (List.mem_append_right _ (List.mem_append_right _ (List.mem_append_right _ (List.mem_append_left _ (List.mem_of_getElem? h)))))))))))))))
theorem hs_w14 (i : Nat) {w : Cond} (h : tables_1_14[i]? = some w) : w ∈ lw_tbl := List.mem_append_right _ (show w ∈ tables_1 from (List.mem_append_right _ (List.mem_append_right _ (List.mem_append_right _ (List.mem_append_right _ (List.mem_append_right _ (List.mem_append_right _ (List.mem_append_right _ (List.mem_append_right _ (List.mem_append_right _ (List.mem_append_right _ (List.mem_append_right _ (List.mem_append_right _ (List.mem_append_right _ (List.mem_of_getElem? h)))))))))))))))
def hs_blk (own : String) (ix : Nat) (bs : List Int32) : List Cond := [.exactly (.string own ix) "java/lang/String", .eq (.field (.string own ix) "java/lang/String" "coder" "B") (.int 0), .arrayOf (.field (.string own ix) "java/lang/String" "value" "[B") .byte, .eq (.length (.field (.string own ix) "java/lang/String" "value" "[B")) (.int (Int32.ofNat bs.length))] ++ (List.range bs.length).map (fun j => .eq (.elem (.field (.string own ix) "java/lang/String" "value" "[B") (.int (Int32.ofNat j))) (.int (bs.getD j 0)))
/-- a String that was there before: its bytes, its array's bytes -/
def hs_S (own : String) (ix : Nat) (bs : List Int32) (q : Nat × Nat) (args : Array Value) (s : State) : Prop := (Term.string own ix).eval args s none [] s = some (.ref q.1) ∧ va_O "java/lang/String" q.1 (fun q : Nat => s.heap.size ≤ q) s s.heap ∧ va_OF "java/lang/String" "coder" "B" (.int 0) q.1 (fun q : Nat => s.heap.size ≤ q) s s.heap ∧ va_OF "java/lang/String" "value" "[B" (.ref q.2) q.1 (fun q : Nat => s.heap.size ≤ q) s s.heap ∧ va_T .byte q.2 bs.length (fun j => .int (bs.getD j 0)) (fun q : Nat => s.heap.size ≤ q) s s.heap
theorem hs_str {args : Array Value} {s : State} {own : String} {ix : Nat} {bs : List Int32} (hN : bs.length < 2 ^ 31) (h : ∀ c ∈ hs_blk own ix bs, c.before args s = true) : ∃ q : Nat × Nat, hs_S own ix bs q args s := by
  have hA : ∀ a : Nat, a < s.heap.size → ¬ (fun q : Nat => s.heap.size ≤ q) a := fun a h => Nat.not_le.mpr h
  have h0 : ∀ c ∈ [Cond.exactly (.string own ix) "java/lang/String", .eq (.field (.string own ix) "java/lang/String" "coder" "B") (.int 0), .arrayOf (.field (.string own ix) "java/lang/String" "value" "[B") .byte, .eq (.length (.field (.string own ix) "java/lang/String" "value" "[B")) (.int (Int32.ofNat bs.length))], c.before args s = true := fun c hc => h c (List.mem_append_left _ hc)
  have h1 := h0 _ List.mem_cons_self
  have h2 := h0 _ (List.mem_cons_of_mem _ List.mem_cons_self)
  have h3 := h0 _ (List.mem_cons_of_mem _ (List.mem_cons_of_mem _ List.mem_cons_self))
  have h4 := h0 _ (List.mem_cons_of_mem _ (List.mem_cons_of_mem _ (List.mem_cons_of_mem _ List.mem_cons_self)))
  obtain ⟨a, c, cA, kA, q1, q2, q3, q4, q5, q6, -⟩ := Cond.exactly_spec (args := args) (first := s) (o := none) (s := s) (idx := []) (t := .string own ix) (cls := "java/lang/String") h1
  obtain ⟨t, ht, hT⟩ := va_Tof (f := fun j => .int (bs.getD j 0)) (A := fun q : Nat => s.heap.size ≤ q) hN h3 (va_eqt h4) (fun j hj => va_eqt (h _ (List.mem_append_right _ (List.mem_map.mpr ⟨j, List.mem_range.mpr hj, rfl⟩)))) hA
  exact ⟨(a, t), q1, ⟨cA, q3, q5, by rw [q6]; exact q2, hA a (Array.getElem?_eq_some_iff.mp q3).1⟩, vk_OFof q1 (va_eqt h2) hA, vk_OFof q1 ht hA, hT⟩
def hs_tab : List (String × Nat × List Int32) := [("DispatchHouse$World", 74, [65, 110, 121]), ("DispatchHouse$World", 86, [73, 110, 116]), ("DispatchHouse$World", 88, [70, 97, 117, 108, 116]), ("DispatchHouse$Signs", 84, [107, 105, 110, 100, 32, 98, 97, 114, 101, 32, 99, 97, 108, 108, 32, 108, 97, 121, 101, 114, 32, 109, 101, 116, 104, 111, 100, 32, 97, 114, 111, 117, 110, 100, 32, 98, 101, 102, 111, 114, 101, 32, 98, 101, 104, 105, 110, 100, 32, 105, 110, 32, 105, 102, 32, 97, 110, 100, 32, 111, 114, 32, 110, 111, 116, 32, 105, 115, 32, 98, 101, 115, 116, 32, 115, 117, 109, 32, 97, 108, 108, 32, 97, 110, 121, 32, 108, 101, 97, 115, 116, 32, 108, 101, 102, 116, 32, 101, 97, 99, 104, 32, 110, 101, 97, 114, 32, 108, 101, 116, 32, 116, 104, 101, 110, 32, 101, 108, 115, 101, 32, 119, 105, 116, 104, 32, 119, 105, 116, 104, 111, 117, 116, 32, 100, 111, 32, 116, 114, 121, 32, 111, 110, 32, 102, 97, 105, 108, 32, 115, 104, 111, 119, 32, 110, 101, 120, 116]), ("DispatchHouse$Signs", 69, [40, 41, 44, 59, 58, 43, 45, 42, 47, 35, 61, 60]), ("DispatchHouseModel", 961, []), ("DispatchHouseModel", 985, [65, 110, 121]), ("DispatchHouseModel", 991, [73, 110, 116]), ("DispatchHouseModel", 993, [70, 97, 117, 108, 116]), ("DispatchHouseModel", 108, [97, 114, 111, 117, 110, 100]), ("DispatchHouseModel", 114, [97, 110, 100]), ("DispatchHouseModel", 116, [97, 108, 108]), ("DispatchHouseModel", 118, [97, 110, 121]), ("DispatchHouseModel", 120, [98, 97, 114, 101]), ("DispatchHouseModel", 122, [98, 101, 102, 111, 114, 101]), ("DispatchHouseModel", 124, [98, 101, 104, 105, 110, 100]), ("DispatchHouseModel", 126, [98, 101, 115, 116]), ("DispatchHouseModel", 128, [99, 97, 108, 108]), ("DispatchHouseModel", 130, [100, 111]), ("DispatchHouseModel", 132, [101, 97, 99, 104]), ("DispatchHouseModel", 134, [101, 108, 115, 101]), ("DispatchHouseModel", 136, [102, 97, 105, 108]), ("DispatchHouseModel", 138, [105, 110]), ("DispatchHouseModel", 140, [105, 102]), ("DispatchHouseModel", 142, [105, 115]), ("DispatchHouseModel", 143, [107, 105, 110, 100]), ("DispatchHouseModel", 145, [108, 97, 121, 101, 114]), ("DispatchHouseModel", 147, [108, 101, 97, 115, 116]), ("DispatchHouseModel", 149, [108, 101, 102, 116]), ("DispatchHouseModel", 151, [108, 101, 116]), ("DispatchHouseModel", 153, [109, 101, 116, 104, 111, 100]), ("DispatchHouseModel", 155, [110, 111, 116]), ("DispatchHouseModel", 157, [110, 101, 97, 114]), ("DispatchHouseModel", 159, [110, 101, 120, 116]), ("DispatchHouseModel", 161, [111, 114]), ("DispatchHouseModel", 163, [111, 110]), ("DispatchHouseModel", 165, [115, 117, 109]), ("DispatchHouseModel", 167, [115, 104, 111, 119]), ("DispatchHouseModel", 169, [116, 104, 101, 110]), ("DispatchHouseModel", 171, [116, 114, 121]), ("DispatchHouseModel", 173, [119, 105, 116, 104]), ("DispatchHouseModel", 175, [119, 105, 116, 104, 111, 117, 116]), ("DispatchHouseModel", 218, [40, 41, 44, 59, 58, 61, 60, 43, 45, 42, 47, 35])]
theorem hs_b0 : ∀ c ∈ hs_blk "DispatchHouse$World" 74 [65, 110, 121], c ∈ hs_F := fun c h => List.mem_of_mem_drop (List.mem_of_mem_take ((show hs_blk "DispatchHouse$World" 74 [65, 110, 121] = (hs_F.drop 251).take 7 by decide +kernel) ▸ h))
theorem hs_b1 : ∀ c ∈ hs_blk "DispatchHouse$World" 86 [73, 110, 116], c ∈ hs_F := fun c h => List.mem_of_mem_drop (List.mem_of_mem_take ((show hs_blk "DispatchHouse$World" 86 [73, 110, 116] = (hs_F.drop 258).take 7 by decide +kernel) ▸ h))
theorem hs_b2 : ∀ c ∈ hs_blk "DispatchHouse$World" 88 [70, 97, 117, 108, 116], c ∈ hs_F := fun c h => List.mem_of_mem_drop (List.mem_of_mem_take ((show hs_blk "DispatchHouse$World" 88 [70, 97, 117, 108, 116] = (hs_F.drop 265).take 9 by decide +kernel) ▸ h))
theorem hs_b3 : ∀ c ∈ hs_blk "DispatchHouse$Signs" 84 [107, 105, 110, 100, 32, 98, 97, 114, 101, 32, 99, 97, 108, 108, 32, 108, 97, 121, 101, 114, 32, 109, 101, 116, 104, 111, 100, 32, 97, 114, 111, 117, 110, 100, 32, 98, 101, 102, 111, 114, 101, 32, 98, 101, 104, 105, 110, 100, 32, 105, 110, 32, 105, 102, 32, 97, 110, 100, 32, 111, 114, 32, 110, 111, 116, 32, 105, 115, 32, 98, 101, 115, 116, 32, 115, 117, 109, 32, 97, 108, 108, 32, 97, 110, 121, 32, 108, 101, 97, 115, 116, 32, 108, 101, 102, 116, 32, 101, 97, 99, 104, 32, 110, 101, 97, 114, 32, 108, 101, 116, 32, 116, 104, 101, 110, 32, 101, 108, 115, 101, 32, 119, 105, 116, 104, 32, 119, 105, 116, 104, 111, 117, 116, 32, 100, 111, 32, 116, 114, 121, 32, 111, 110, 32, 102, 97, 105, 108, 32, 115, 104, 111, 119, 32, 110, 101, 120, 116], c ∈ hs_F := fun c h => List.mem_of_mem_drop (List.mem_of_mem_take ((show hs_blk "DispatchHouse$Signs" 84 [107, 105, 110, 100, 32, 98, 97, 114, 101, 32, 99, 97, 108, 108, 32, 108, 97, 121, 101, 114, 32, 109, 101, 116, 104, 111, 100, 32, 97, 114, 111, 117, 110, 100, 32, 98, 101, 102, 111, 114, 101, 32, 98, 101, 104, 105, 110, 100, 32, 105, 110, 32, 105, 102, 32, 97, 110, 100, 32, 111, 114, 32, 110, 111, 116, 32, 105, 115, 32, 98, 101, 115, 116, 32, 115, 117, 109, 32, 97, 108, 108, 32, 97, 110, 121, 32, 108, 101, 97, 115, 116, 32, 108, 101, 102, 116, 32, 101, 97, 99, 104, 32, 110, 101, 97, 114, 32, 108, 101, 116, 32, 116, 104, 101, 110, 32, 101, 108, 115, 101, 32, 119, 105, 116, 104, 32, 119, 105, 116, 104, 111, 117, 116, 32, 100, 111, 32, 116, 114, 121, 32, 111, 110, 32, 102, 97, 105, 108, 32, 115, 104, 111, 119, 32, 110, 101, 120, 116] = (hs_F.drop 274).take 162 by decide +kernel) ▸ h))
theorem hs_b4 : ∀ c ∈ hs_blk "DispatchHouse$Signs" 69 [40, 41, 44, 59, 58, 43, 45, 42, 47, 35, 61, 60], c ∈ hs_F := fun c h => List.mem_of_mem_drop (List.mem_of_mem_take ((show hs_blk "DispatchHouse$Signs" 69 [40, 41, 44, 59, 58, 43, 45, 42, 47, 35, 61, 60] = (hs_F.drop 436).take 16 by decide +kernel) ▸ h))
theorem hs_b5 : ∀ c ∈ hs_blk "DispatchHouseModel" 961 [], c ∈ hs_F := fun c h => List.mem_of_mem_drop (List.mem_of_mem_take ((show hs_blk "DispatchHouseModel" 961 [] = (hs_F.drop 452).take 4 by decide +kernel) ▸ h))
theorem hs_b6 : ∀ c ∈ hs_blk "DispatchHouseModel" 985 [65, 110, 121], c ∈ hs_F := fun c h => List.mem_of_mem_drop (List.mem_of_mem_take ((show hs_blk "DispatchHouseModel" 985 [65, 110, 121] = (hs_F.drop 456).take 7 by decide +kernel) ▸ h))
theorem hs_b7 : ∀ c ∈ hs_blk "DispatchHouseModel" 991 [73, 110, 116], c ∈ hs_F := fun c h => List.mem_of_mem_drop (List.mem_of_mem_take ((show hs_blk "DispatchHouseModel" 991 [73, 110, 116] = (hs_F.drop 464).take 7 by decide +kernel) ▸ h))
theorem hs_b8 : ∀ c ∈ hs_blk "DispatchHouseModel" 993 [70, 97, 117, 108, 116], c ∈ hs_F := fun c h => List.mem_of_mem_drop (List.mem_of_mem_take ((show hs_blk "DispatchHouseModel" 993 [70, 97, 117, 108, 116] = (hs_F.drop 472).take 9 by decide +kernel) ▸ h))
theorem hs_b9 : ∀ c ∈ hs_blk "DispatchHouseModel" 108 [97, 114, 111, 117, 110, 100], c ∈ hs_F := fun c h => List.mem_of_mem_drop (List.mem_of_mem_take ((show hs_blk "DispatchHouseModel" 108 [97, 114, 111, 117, 110, 100] = (hs_F.drop 482).take 10 by decide +kernel) ▸ h))
theorem hs_b10 : ∀ c ∈ hs_blk "DispatchHouseModel" 114 [97, 110, 100], c ∈ hs_F := fun c h => List.mem_of_mem_drop (List.mem_of_mem_take ((show hs_blk "DispatchHouseModel" 114 [97, 110, 100] = (hs_F.drop 492).take 7 by decide +kernel) ▸ h))
theorem hs_b11 : ∀ c ∈ hs_blk "DispatchHouseModel" 116 [97, 108, 108], c ∈ hs_F := fun c h => List.mem_of_mem_drop (List.mem_of_mem_take ((show hs_blk "DispatchHouseModel" 116 [97, 108, 108] = (hs_F.drop 499).take 7 by decide +kernel) ▸ h))
theorem hs_b12 : ∀ c ∈ hs_blk "DispatchHouseModel" 118 [97, 110, 121], c ∈ hs_F := fun c h => List.mem_of_mem_drop (List.mem_of_mem_take ((show hs_blk "DispatchHouseModel" 118 [97, 110, 121] = (hs_F.drop 506).take 7 by decide +kernel) ▸ h))
theorem hs_b13 : ∀ c ∈ hs_blk "DispatchHouseModel" 120 [98, 97, 114, 101], c ∈ hs_F := fun c h => List.mem_of_mem_drop (List.mem_of_mem_take ((show hs_blk "DispatchHouseModel" 120 [98, 97, 114, 101] = (hs_F.drop 513).take 8 by decide +kernel) ▸ h))
theorem hs_b14 : ∀ c ∈ hs_blk "DispatchHouseModel" 122 [98, 101, 102, 111, 114, 101], c ∈ hs_F := fun c h => List.mem_of_mem_drop (List.mem_of_mem_take ((show hs_blk "DispatchHouseModel" 122 [98, 101, 102, 111, 114, 101] = (hs_F.drop 521).take 10 by decide +kernel) ▸ h))
theorem hs_b15 : ∀ c ∈ hs_blk "DispatchHouseModel" 124 [98, 101, 104, 105, 110, 100], c ∈ hs_F := fun c h => List.mem_of_mem_drop (List.mem_of_mem_take ((show hs_blk "DispatchHouseModel" 124 [98, 101, 104, 105, 110, 100] = (hs_F.drop 531).take 10 by decide +kernel) ▸ h))
theorem hs_b16 : ∀ c ∈ hs_blk "DispatchHouseModel" 126 [98, 101, 115, 116], c ∈ hs_F := fun c h => List.mem_of_mem_drop (List.mem_of_mem_take ((show hs_blk "DispatchHouseModel" 126 [98, 101, 115, 116] = (hs_F.drop 541).take 8 by decide +kernel) ▸ h))
theorem hs_b17 : ∀ c ∈ hs_blk "DispatchHouseModel" 128 [99, 97, 108, 108], c ∈ hs_F := fun c h => List.mem_of_mem_drop (List.mem_of_mem_take ((show hs_blk "DispatchHouseModel" 128 [99, 97, 108, 108] = (hs_F.drop 549).take 8 by decide +kernel) ▸ h))
theorem hs_b18 : ∀ c ∈ hs_blk "DispatchHouseModel" 130 [100, 111], c ∈ hs_F := fun c h => List.mem_of_mem_drop (List.mem_of_mem_take ((show hs_blk "DispatchHouseModel" 130 [100, 111] = (hs_F.drop 557).take 6 by decide +kernel) ▸ h))
theorem hs_b19 : ∀ c ∈ hs_blk "DispatchHouseModel" 132 [101, 97, 99, 104], c ∈ hs_F := fun c h => List.mem_of_mem_drop (List.mem_of_mem_take ((show hs_blk "DispatchHouseModel" 132 [101, 97, 99, 104] = (hs_F.drop 563).take 8 by decide +kernel) ▸ h))
theorem hs_b20 : ∀ c ∈ hs_blk "DispatchHouseModel" 134 [101, 108, 115, 101], c ∈ hs_F := fun c h => List.mem_of_mem_drop (List.mem_of_mem_take ((show hs_blk "DispatchHouseModel" 134 [101, 108, 115, 101] = (hs_F.drop 571).take 8 by decide +kernel) ▸ h))
theorem hs_b21 : ∀ c ∈ hs_blk "DispatchHouseModel" 136 [102, 97, 105, 108], c ∈ hs_F := fun c h => List.mem_of_mem_drop (List.mem_of_mem_take ((show hs_blk "DispatchHouseModel" 136 [102, 97, 105, 108] = (hs_F.drop 579).take 8 by decide +kernel) ▸ h))
theorem hs_b22 : ∀ c ∈ hs_blk "DispatchHouseModel" 138 [105, 110], c ∈ hs_F := fun c h => List.mem_of_mem_drop (List.mem_of_mem_take ((show hs_blk "DispatchHouseModel" 138 [105, 110] = (hs_F.drop 587).take 6 by decide +kernel) ▸ h))
theorem hs_b23 : ∀ c ∈ hs_blk "DispatchHouseModel" 140 [105, 102], c ∈ hs_F := fun c h => List.mem_of_mem_drop (List.mem_of_mem_take ((show hs_blk "DispatchHouseModel" 140 [105, 102] = (hs_F.drop 593).take 6 by decide +kernel) ▸ h))
theorem hs_b24 : ∀ c ∈ hs_blk "DispatchHouseModel" 142 [105, 115], c ∈ hs_F := fun c h => List.mem_of_mem_drop (List.mem_of_mem_take ((show hs_blk "DispatchHouseModel" 142 [105, 115] = (hs_F.drop 599).take 6 by decide +kernel) ▸ h))
theorem hs_b25 : ∀ c ∈ hs_blk "DispatchHouseModel" 143 [107, 105, 110, 100], c ∈ hs_F := fun c h => List.mem_of_mem_drop (List.mem_of_mem_take ((show hs_blk "DispatchHouseModel" 143 [107, 105, 110, 100] = (hs_F.drop 605).take 8 by decide +kernel) ▸ h))
theorem hs_b26 : ∀ c ∈ hs_blk "DispatchHouseModel" 145 [108, 97, 121, 101, 114], c ∈ hs_F := fun c h => List.mem_of_mem_drop (List.mem_of_mem_take ((show hs_blk "DispatchHouseModel" 145 [108, 97, 121, 101, 114] = (hs_F.drop 613).take 9 by decide +kernel) ▸ h))
theorem hs_b27 : ∀ c ∈ hs_blk "DispatchHouseModel" 147 [108, 101, 97, 115, 116], c ∈ hs_F := fun c h => List.mem_of_mem_drop (List.mem_of_mem_take ((show hs_blk "DispatchHouseModel" 147 [108, 101, 97, 115, 116] = (hs_F.drop 622).take 9 by decide +kernel) ▸ h))
theorem hs_b28 : ∀ c ∈ hs_blk "DispatchHouseModel" 149 [108, 101, 102, 116], c ∈ hs_F := fun c h => List.mem_of_mem_drop (List.mem_of_mem_take ((show hs_blk "DispatchHouseModel" 149 [108, 101, 102, 116] = (hs_F.drop 631).take 8 by decide +kernel) ▸ h))
theorem hs_b29 : ∀ c ∈ hs_blk "DispatchHouseModel" 151 [108, 101, 116], c ∈ hs_F := fun c h => List.mem_of_mem_drop (List.mem_of_mem_take ((show hs_blk "DispatchHouseModel" 151 [108, 101, 116] = (hs_F.drop 639).take 7 by decide +kernel) ▸ h))
theorem hs_b30 : ∀ c ∈ hs_blk "DispatchHouseModel" 153 [109, 101, 116, 104, 111, 100], c ∈ hs_F := fun c h => List.mem_of_mem_drop (List.mem_of_mem_take ((show hs_blk "DispatchHouseModel" 153 [109, 101, 116, 104, 111, 100] = (hs_F.drop 646).take 10 by decide +kernel) ▸ h))
theorem hs_b31 : ∀ c ∈ hs_blk "DispatchHouseModel" 155 [110, 111, 116], c ∈ hs_F := fun c h => List.mem_of_mem_drop (List.mem_of_mem_take ((show hs_blk "DispatchHouseModel" 155 [110, 111, 116] = (hs_F.drop 656).take 7 by decide +kernel) ▸ h))
theorem hs_b32 : ∀ c ∈ hs_blk "DispatchHouseModel" 157 [110, 101, 97, 114], c ∈ hs_F := fun c h => List.mem_of_mem_drop (List.mem_of_mem_take ((show hs_blk "DispatchHouseModel" 157 [110, 101, 97, 114] = (hs_F.drop 663).take 8 by decide +kernel) ▸ h))
theorem hs_b33 : ∀ c ∈ hs_blk "DispatchHouseModel" 159 [110, 101, 120, 116], c ∈ hs_F := fun c h => List.mem_of_mem_drop (List.mem_of_mem_take ((show hs_blk "DispatchHouseModel" 159 [110, 101, 120, 116] = (hs_F.drop 671).take 8 by decide +kernel) ▸ h))
theorem hs_b34 : ∀ c ∈ hs_blk "DispatchHouseModel" 161 [111, 114], c ∈ hs_F := fun c h => List.mem_of_mem_drop (List.mem_of_mem_take ((show hs_blk "DispatchHouseModel" 161 [111, 114] = (hs_F.drop 679).take 6 by decide +kernel) ▸ h))
theorem hs_b35 : ∀ c ∈ hs_blk "DispatchHouseModel" 163 [111, 110], c ∈ hs_F := fun c h => List.mem_of_mem_drop (List.mem_of_mem_take ((show hs_blk "DispatchHouseModel" 163 [111, 110] = (hs_F.drop 685).take 6 by decide +kernel) ▸ h))
theorem hs_b36 : ∀ c ∈ hs_blk "DispatchHouseModel" 165 [115, 117, 109], c ∈ hs_F := fun c h => List.mem_of_mem_drop (List.mem_of_mem_take ((show hs_blk "DispatchHouseModel" 165 [115, 117, 109] = (hs_F.drop 691).take 7 by decide +kernel) ▸ h))
theorem hs_b37 : ∀ c ∈ hs_blk "DispatchHouseModel" 167 [115, 104, 111, 119], c ∈ hs_F := fun c h => List.mem_of_mem_drop (List.mem_of_mem_take ((show hs_blk "DispatchHouseModel" 167 [115, 104, 111, 119] = (hs_F.drop 698).take 8 by decide +kernel) ▸ h))
theorem hs_b38 : ∀ c ∈ hs_blk "DispatchHouseModel" 169 [116, 104, 101, 110], c ∈ hs_F := fun c h => List.mem_of_mem_drop (List.mem_of_mem_take ((show hs_blk "DispatchHouseModel" 169 [116, 104, 101, 110] = (hs_F.drop 706).take 8 by decide +kernel) ▸ h))
theorem hs_b39 : ∀ c ∈ hs_blk "DispatchHouseModel" 171 [116, 114, 121], c ∈ hs_F := fun c h => List.mem_of_mem_drop (List.mem_of_mem_take ((show hs_blk "DispatchHouseModel" 171 [116, 114, 121] = (hs_F.drop 714).take 7 by decide +kernel) ▸ h))
theorem hs_b40 : ∀ c ∈ hs_blk "DispatchHouseModel" 173 [119, 105, 116, 104], c ∈ hs_F := fun c h => List.mem_of_mem_drop (List.mem_of_mem_take ((show hs_blk "DispatchHouseModel" 173 [119, 105, 116, 104] = (hs_F.drop 721).take 8 by decide +kernel) ▸ h))
theorem hs_b41 : ∀ c ∈ hs_blk "DispatchHouseModel" 175 [119, 105, 116, 104, 111, 117, 116], c ∈ hs_F := fun c h => List.mem_of_mem_drop (List.mem_of_mem_take ((show hs_blk "DispatchHouseModel" 175 [119, 105, 116, 104, 111, 117, 116] = (hs_F.drop 729).take 11 by decide +kernel) ▸ h))
theorem hs_b42 : ∀ c ∈ hs_blk "DispatchHouseModel" 218 [40, 41, 44, 59, 58, 61, 60, 43, 45, 42, 47, 35], c ∈ hs_F := fun c h => List.mem_of_mem_drop (List.mem_of_mem_take ((show hs_blk "DispatchHouseModel" 218 [40, 41, 44, 59, 58, 61, 60, 43, 45, 42, 47, 35] = (hs_F.drop 740).take 16 by decide +kernel) ▸ h))
set_option maxRecDepth 20000 in
theorem hs_all : ∀ q ∈ hs_tab, q.2.2.length < 2 ^ 31 ∧ ∀ c ∈ hs_blk q.1 q.2.1 q.2.2, c ∈ hs_F := List.forall_mem_cons.mpr ⟨⟨by decide, hs_b0⟩, List.forall_mem_cons.mpr ⟨⟨by decide, hs_b1⟩, List.forall_mem_cons.mpr ⟨⟨by decide, hs_b2⟩, List.forall_mem_cons.mpr ⟨⟨by decide, hs_b3⟩, List.forall_mem_cons.mpr ⟨⟨by decide, hs_b4⟩, List.forall_mem_cons.mpr ⟨⟨by decide, hs_b5⟩, List.forall_mem_cons.mpr ⟨⟨by decide, hs_b6⟩, List.forall_mem_cons.mpr ⟨⟨by decide, hs_b7⟩, List.forall_mem_cons.mpr ⟨⟨by decide, hs_b8⟩, List.forall_mem_cons.mpr ⟨⟨by decide, hs_b9⟩, List.forall_mem_cons.mpr ⟨⟨by decide, hs_b10⟩, List.forall_mem_cons.mpr ⟨⟨by decide, hs_b11⟩, List.forall_mem_cons.mpr ⟨⟨by decide, hs_b12⟩, List.forall_mem_cons.mpr ⟨⟨by decide, hs_b13⟩, List.forall_mem_cons.mpr ⟨⟨by decide, hs_b14⟩, List.forall_mem_cons.mpr ⟨⟨by decide, hs_b15⟩, List.forall_mem_cons.mpr ⟨⟨by decide, hs_b16⟩, List.forall_mem_cons.mpr ⟨⟨by decide, hs_b17⟩, List.forall_mem_cons.mpr ⟨⟨by decide, hs_b18⟩, List.forall_mem_cons.mpr ⟨⟨by decide, hs_b19⟩, List.forall_mem_cons.mpr ⟨⟨by decide, hs_b20⟩, List.forall_mem_cons.mpr ⟨⟨by decide, hs_b21⟩, List.forall_mem_cons.mpr ⟨⟨by decide, hs_b22⟩, List.forall_mem_cons.mpr ⟨⟨by decide, hs_b23⟩, List.forall_mem_cons.mpr ⟨⟨by decide, hs_b24⟩, List.forall_mem_cons.mpr ⟨⟨by decide, hs_b25⟩, List.forall_mem_cons.mpr ⟨⟨by decide, hs_b26⟩, List.forall_mem_cons.mpr ⟨⟨by decide, hs_b27⟩, List.forall_mem_cons.mpr ⟨⟨by decide, hs_b28⟩, List.forall_mem_cons.mpr ⟨⟨by decide, hs_b29⟩, List.forall_mem_cons.mpr ⟨⟨by decide, hs_b30⟩, List.forall_mem_cons.mpr ⟨⟨by decide, hs_b31⟩, List.forall_mem_cons.mpr ⟨⟨by decide, hs_b32⟩, List.forall_mem_cons.mpr ⟨⟨by decide, hs_b33⟩, List.forall_mem_cons.mpr ⟨⟨by decide, hs_b34⟩, List.forall_mem_cons.mpr ⟨⟨by decide, hs_b35⟩, List.forall_mem_cons.mpr ⟨⟨by decide, hs_b36⟩, List.forall_mem_cons.mpr ⟨⟨by decide, hs_b37⟩, List.forall_mem_cons.mpr ⟨⟨by decide, hs_b38⟩, List.forall_mem_cons.mpr ⟨⟨by decide, hs_b39⟩, List.forall_mem_cons.mpr ⟨⟨by decide, hs_b40⟩, List.forall_mem_cons.mpr ⟨⟨by decide, hs_b41⟩, List.forall_mem_cons.mpr ⟨⟨by decide, hs_b42⟩, fun _ h => absurd h List.not_mem_nil⟩⟩⟩⟩⟩⟩⟩⟩⟩⟩⟩⟩⟩⟩⟩⟩⟩⟩⟩⟩⟩⟩⟩⟩⟩⟩⟩⟩⟩⟩⟩⟩⟩⟩⟩⟩⟩⟩⟩⟩⟩⟩⟩
theorem hs_strs {args : Array Value} {s : State} (hF : ∀ c ∈ hs_F, c.before args s = true) : ∃ ad : Nat → Nat × Nat, ∀ (i : Nat) (q : String × Nat × List Int32), hs_tab[i]? = some q → hs_S q.1 q.2.1 q.2.2 (ad i) args s := by
  have h0 : ∀ i : Nat, ∃ a : Nat × Nat, ∀ q : String × Nat × List Int32, hs_tab[i]? = some q → hs_S q.1 q.2.1 q.2.2 a args s := by
    intro i
    cases hq : hs_tab[i]? with
    | none => exact ⟨(0, 0), fun q h => by cases h⟩
    | some q0 =>
      obtain ⟨h1, h2⟩ := hs_all q0 (List.mem_of_getElem? hq)
      obtain ⟨a, ha⟩ := hs_str h1 (fun c hc => hF c (h2 c hc))
      exact ⟨a, fun q h => by cases h; exact ha⟩
  obtain ⟨ad, had⟩ := Classical.axiomOfChoice h0
  exact ⟨ad, had⟩
/-- a static array that was there before -/
theorem hs_arr {args : Array Value} {s : State} {C n d : String} {ty : FieldType} {N : Nat} {f : Nat → Value} (hl : (Cond.laysStatic C n d).before args s = true) (hini : (Cond.initialized C).before args s = true) (hN : N < 2 ^ 31) (ha : (Cond.arrayOf (.static C n d) ty).before args s = true) (hlen : (Cond.eq (.length (.static C n d)) (.int (Int32.ofNat N))).before args s = true) (hel : ∀ j : Nat, j < N → (Term.elem (.static C n d) (.int (Int32.ofNat j))).eval args s none [] s = some (f j)) :
    ∃ t : Nat, va_Z C n d (.ref t) (fun q : Nat => s.heap.size ≤ q) s s.heap ∧ va_T ty t N f (fun q : Nat => s.heap.size ≤ q) s s.heap := by
  have hA : ∀ a : Nat, a < s.heap.size → ¬ (fun q : Nat => s.heap.size ≤ q) a := fun a h => Nat.not_le.mpr h
  obtain ⟨t, ht, hT⟩ := va_Tof (f := f) (A := fun q : Nat => s.heap.size ≤ q) hN ha (va_eqt hlen) hel hA
  exact ⟨t, va_Zof hl hini ht hA, hT⟩
theorem va_T.lt {ty : FieldType} {t N : Nat} {f : Nat → Value} {A : Nat → Prop} {U : State} {H : Heap} (h : va_T ty t N f A U H) : t < H.size := by
  obtain ⟨cell, h1, -⟩ := h
  exact (Array.getElem?_eq_some_iff.mp h1).1
theorem va_O.lt {E : String} {t : Nat} {A : Nat → Prop} {U : State} {H : Heap} (h : va_O E t A U H) : t < H.size := by
  obtain ⟨cell, h1, -⟩ := h
  exact (Array.getElem?_eq_some_iff.mp h1).1
/-- kinds of arrays: what they hold -/
def hs_ty : Nat → FieldType
  | 0 => .int
  | 1 => .long
  | 2 => .byte
  | 3 => .boolean
  | k + 4 => (hb_O k).getD .int
def hs_cA (s : State) (k : Nat) : ClassId := (s.vm.findClass ("[" ++ (hs_ty k).toString)).getD 0
/-- the class of an array's components -/
def hs_co (s : State) (ty : FieldType) (comp : ClassId) : Prop := match ty with
  | .object C => s.vm.findClass C = some comp
  | .array t => s.vm.findClass (FieldType.array t).toString = some comp
  | _ => True
def hs_Ar (s : State) (k : Nat) : Prop := ∃ (kA : Class) (comp : ClassId), s.vm.findClass ("[" ++ (hs_ty k).toString) = some (hs_cA s k) ∧ s.vm.classes[hs_cA s k]? = some kA ∧ kA.kind = .array comp (hs_ty k) ∧ hs_co s (hs_ty k) comp
theorem hs_ArP {args : Array Value} {s : State} {k : Nat} {ty : FieldType} (hk : hs_ty k = ty) (hp : ∀ c, hs_co s ty c) (h : (Cond.arrayClass ty).before args s = true) : hs_Ar s k := by
  obtain ⟨c, kA, comp, h1, h2, h3⟩ := Cond.arrayClass_spec h
  have e : hs_cA s k = c := by
    unfold hs_cA
    rw [hk, h1]
    rfl
  refine ⟨kA, comp, ?_, ?_, ?_, ?_⟩
  · rw [e, hk]
    exact h1
  · rw [e]
    exact h2
  · rw [hk]
    exact h3
  · rw [hk]
    exact hp comp
theorem hs_ArO {args : Array Value} {s : State} {k : Nat} {C : String} (hk : hs_ty k = .object C) (h : (Cond.arrayOver (.object C)).before args s = true) : hs_Ar s k := by
  obtain ⟨comp, c, kA, h1, -, h2, h3, h4⟩ := Cond.arrayOver_spec h
  have e : hs_cA s k = c := by
    unfold hs_cA
    rw [hk, h4]
    rfl
  refine ⟨kA, comp, ?_, ?_, ?_, ?_⟩
  · rw [e, hk]
    exact h4
  · rw [e]
    exact h2
  · rw [hk]
    exact h3
  · rw [hk]
    exact h1
theorem hs_ArA {args : Array Value} {s : State} {k : Nat} {t : FieldType} (hk : hs_ty k = .array t) (h : (Cond.arrayOver (.array t)).before args s = true) : hs_Ar s k := by
  obtain ⟨comp, c, kA, h1, h2, h3, h4⟩ := Cond.arrayOver_specA h
  have e : hs_cA s k = c := by
    unfold hs_cA
    rw [hk, h4]
    rfl
  refine ⟨kA, comp, ?_, ?_, ?_, ?_⟩
  · rw [e, hk]
    exact h4
  · rw [e]
    exact h2
  · rw [hk]
    exact h3
  · rw [hk]
    exact h1
def hs_tys (s : State) : List (ClassId × FieldType) := (List.range 15).map (fun k => (hs_cA s k, hs_ty k))
theorem hs_Ars {args : Array Value} {s : State} (hts : ∀ w ∈ lw_tbl, w.before args s = true) : ∀ k, k < 15 → hs_Ar s k := by
  intro k hk
  rcases (show k = 0 ∨ k = 1 ∨ k = 2 ∨ k = 3 ∨ k = 4 ∨ k = 5 ∨ k = 6 ∨ k = 7 ∨ k = 8 ∨ k = 9 ∨ k = 10 ∨ k = 11 ∨ k = 12 ∨ k = 13 ∨ k = 14 by omega) with rfl | rfl | rfl | rfl | rfl | rfl | rfl | rfl | rfl | rfl | rfl | rfl | rfl | rfl | rfl
  · exact hs_ArP (ty := .int) rfl (fun _ => trivial) (hts _ (hs_w1 96 (by decide +kernel)))
  · exact hs_ArP (ty := .long) rfl (fun _ => trivial) (hts _ (hs_w1 189 (by decide +kernel)))
  · exact hs_ArP (ty := .byte) rfl (fun _ => trivial) (hts _ (hs_w2 217 (by decide +kernel)))
  · exact hs_ArP (ty := .boolean) rfl (fun _ => trivial) (hts _ (hs_w1 95 (by decide +kernel)))
  · exact hs_ArO (C := "DispatchHouseModel$Kind") rfl (hts _ (hs_w8 108 (by decide +kernel)))
  · exact hs_ArO (C := "DispatchHouseModel$Call") rfl (hts _ (hs_w8 110 (by decide +kernel)))
  · exact hs_ArO (C := "DispatchHouseModel$Method") rfl (hts _ (hs_w8 112 (by decide +kernel)))
  · exact hs_ArO (C := "DispatchHouseModel$Name") rfl (hts _ (hs_w8 114 (by decide +kernel)))
  · exact hs_ArA (t := .int) rfl (hts _ (hs_w8 156 (by decide +kernel)))
  · exact hs_ArA (t := (.array (.array .long))) rfl (hts _ (hs_w9 25 (by decide +kernel)))
  · exact hs_ArA (t := (.array .long)) rfl (hts _ (hs_w9 26 (by decide +kernel)))
  · exact hs_ArA (t := .long) rfl (hts _ (hs_w9 27 (by decide +kernel)))
  · exact hs_ArA (t := .boolean) rfl (hts _ (hs_w9 29 (by decide +kernel)))
  · exact hs_ArO (C := "DispatchHouseModel$Choice") rfl (hts _ (hs_w9 33 (by decide +kernel)))
  · exact hs_ArO (C := "java/lang/Object") rfl (hts _ (hs_w12 111 (by decide +kernel)))
theorem hs_Ty (s : State) : ab_Ty (hs_cA s) hb_O (hs_tys s) := by
  refine ⟨rfl, rfl, rfl, rfl, fun j ty hj => ?_⟩
  have hj2 : j < 11 := by
    unfold hb_O at hj
    split at hj <;> first | decide | (cases hj; done)
  unfold hs_tys
  rw [List.getElem?_map, List.getElem?_range (by omega)]
  show some (hs_cA s (j + 4), (hb_O j).getD .int) = _
  rw [hj]
  rfl
theorem hs_K2 {args : Array Value} {s : State} (hts : ∀ w ∈ lw_tbl, w.before args s = true) : ∀ (k : Nat) (q : ClassId × FieldType), (hs_tys s)[k]? = some q → ArrOfT s q.1 q.2 ∧ va_RA s q.1 q.2 := by
  intro k q hq
  unfold hs_tys at hq
  rw [List.getElem?_map] at hq
  obtain ⟨k', h1, h2⟩ := Option.map_eq_some_iff.mp hq
  have hk : k < 15 := by
    have := (List.getElem?_eq_some_iff.mp h1).1
    rwa [List.length_range] at this
  rw [List.getElem?_range hk] at h1
  cases h1
  cases h2
  obtain ⟨kA, comp, g1, g2, g3, g4⟩ := hs_Ars hts k hk
  refine ⟨fun N z => ⟨(fun k h => by cases h), kA, g2, comp, g3⟩, ?_⟩
  show va_RA s (hs_cA s k) (hs_ty k)
  revert g1 g3 g4
  generalize hs_ty k = ty
  intro g1 g3 g4
  cases ty with
  | object C => exact ⟨kA, comp, g2, g3, g4, g1⟩
  | _ => exact g1
/-- the classes' numbers and slots -/
theorem hs_K1 {args : Array Value} {s : State} (hts : ∀ w ∈ lw_tbl, w.before args s = true) : ∃ D : va_G, ∀ (c : Nat) (q : vw_C), vwCl[c]? = some q → u_Kn s q.1 q.2.1 q.2.2 (D.1 c) (D.2 c) := by
  have hb : ∀ w ∈ hb_TB, w.before args s = true := fun w hw => hts w (List.mem_filter.mp hw).1
  have h0 : ∀ c : Nat, ∃ q2 : ClassId × (Nat → Nat), ∀ q : vw_C, vwCl[c]? = some q → u_Kn s q.1 q.2.1 q.2.2 q2.1 q2.2 := by
    intro c
    have all : ∀ q ∈ vwCl, ∃ (cC : ClassId) (iS : Nat → Nat), u_Kn s q.1 q.2.1 q.2.2 cC iS := by
      exact List.forall_mem_cons.mpr ⟨u_known (n := 3) hb hb_inJx4a65c (hts _ (hs_w8 122 (by decide +kernel))), List.forall_mem_cons.mpr ⟨u_known (n := 17) hb hb_inX0 (hts _ (hs_w3 211 (by decide +kernel))), List.forall_mem_cons.mpr ⟨u_known (n := 5) hb hb_inX1 (hts _ (hs_w1 191 (by decide +kernel))), List.forall_mem_cons.mpr ⟨u_known (n := 8) hb hb_inX2 (hts _ (hs_w1 61 (by decide +kernel))), List.forall_mem_cons.mpr ⟨u_known (n := 13) hb hb_inX3 (hts _ (hs_w3 117 (by decide +kernel))), List.forall_mem_cons.mpr ⟨u_known (n := 19) hb hb_inX4 (hts _ (hs_w3 209 (by decide +kernel))), List.forall_mem_cons.mpr ⟨u_known (n := 14) hb hb_inX5 (hts _ (hs_w1 98 (by decide +kernel))), List.forall_mem_cons.mpr ⟨u_known (n := 4) hb hb_inX6 (hts _ (hs_w3 53 (by decide +kernel))), List.forall_mem_cons.mpr ⟨u_known (n := 13) hb hb_inX7 (hts _ (hs_w2 219 (by decide +kernel))), List.forall_mem_cons.mpr ⟨u_known (n := 5) hb hb_inX8 (hts _ (hs_w2 225 (by decide +kernel))), List.forall_mem_cons.mpr ⟨u_known (n := 12) hb hb_inX9 (hts _ (hs_w3 59 (by decide +kernel))), List.forall_mem_cons.mpr ⟨u_known (n := 12) hb hb_inX10 (hts _ (hs_w3 163 (by decide +kernel))), List.forall_mem_cons.mpr ⟨u_known (n := 18) hb hb_inX11 (hts _ (hs_w1 55 (by decide +kernel))), List.forall_mem_cons.mpr ⟨u_known (n := 14) hb hb_inX12 (hts _ (hs_w1 47 (by decide +kernel))), List.forall_mem_cons.mpr ⟨u_known (n := 4) hb hb_inX13 (hts _ (hs_w8 200 (by decide +kernel))), List.forall_mem_cons.mpr ⟨u_known (n := 4) hb hb_inX14 (hts _ (hs_w9 73 (by decide +kernel))), List.forall_mem_cons.mpr ⟨u_known (n := 6) hb hb_inX15 (hts _ (hs_w9 58 (by decide +kernel))), List.forall_mem_cons.mpr ⟨u_known (n := 6) hb hb_inX16 (hts _ (hs_w9 35 (by decide +kernel))), List.forall_mem_cons.mpr ⟨u_known (n := 6) hb hb_inX17 (hts _ (hs_w8 158 (by decide +kernel))), List.forall_mem_cons.mpr ⟨u_known (n := 11) hb hb_inX18 (hts _ (hs_w8 221 (by decide +kernel))), List.forall_mem_cons.mpr ⟨u_known (n := 2) hb hb_inX19 (hts _ (hs_w8 164 (by decide +kernel))), List.forall_mem_cons.mpr ⟨u_known (n := 12) hb hb_inX20 (hts _ (hs_w11 234 (by decide +kernel))), List.forall_mem_cons.mpr ⟨u_known (n := 2) hb hb_inX21 (hts _ (hs_w8 116 (by decide +kernel))), List.forall_mem_cons.mpr ⟨u_known (n := 7) hb hb_inX22 (hts _ (hs_w11 127 (by decide +kernel))), List.forall_mem_cons.mpr ⟨u_known (n := 115) hb hb_inX23 (hts _ (hs_w8 102 (by decide +kernel))), fun _ h => absurd h List.not_mem_nil⟩⟩⟩⟩⟩⟩⟩⟩⟩⟩⟩⟩⟩⟩⟩⟩⟩⟩⟩⟩⟩⟩⟩⟩⟩
    cases hq : vwCl[c]? with
    | none => exact ⟨(0, fun _ => 0), fun q h => by cases h⟩
    | some q0 =>
      obtain ⟨cC, iS, h⟩ := all q0 (List.mem_of_getElem? hq)
      exact ⟨(cC, iS), fun q h' => by cases h'; exact h⟩
  obtain ⟨g, hg⟩ := Classical.axiomOfChoice h0
  exact ⟨(fun c => (g c).1, fun c => (g c).2), fun c q h => hg c q h⟩

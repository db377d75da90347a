theorem ca_mX4_kindOf : Cond.initialized (ab_my mX4_kindOf).cls ∈ hb_TB ∧ ((ab_my mX4_kindOf).cls ≠ "java/lang/invoke/MethodHandle" ∧ (ab_my mX4_kindOf).cls ≠ "java/lang/invoke/VarHandle" ∧ (parseMethodDescriptor (ab_my mX4_kindOf).desc).map (fun d => d.parameters.length) = some 1) := ⟨(hb_w1 18 (by decide +kernel)), by decide +kernel⟩
theorem ct_mX4_kindOf : Cond.static (ab_my mX4_kindOf) ∈ hb_TB := (hb_w7 166 (by decide +kernel))
theorem ca_mX3_looksFor : Cond.initialized (ab_my mX3_looksFor).cls ∈ hb_TB ∧ ((ab_my mX3_looksFor).cls ≠ "java/lang/invoke/MethodHandle" ∧ (ab_my mX3_looksFor).cls ≠ "java/lang/invoke/VarHandle" ∧ (parseMethodDescriptor (ab_my mX3_looksFor).desc).map (fun d => d.parameters.length) = some 3) := ⟨(hb_w1 16 (by decide +kernel)), by decide +kernel⟩
theorem ci_mX3_looksFor : Cond.instanceMethod (ab_my mX3_looksFor) ∈ hb_TB := (hb_w7 169 (by decide +kernel))
theorem cs_mX3_looksFor : Cond.selects (ab_my mX3_looksFor).cls (ab_my mX3_looksFor) (ab_my mX3_looksFor) ∈ hb_TB := (hb_w7 170 (by decide +kernel))
theorem ca_mX0_gatherApplying : Cond.initialized (ab_my mX0_gatherApplying).cls ∈ hb_TB ∧ ((ab_my mX0_gatherApplying).cls ≠ "java/lang/invoke/MethodHandle" ∧ (ab_my mX0_gatherApplying).cls ≠ "java/lang/invoke/VarHandle" ∧ (parseMethodDescriptor (ab_my mX0_gatherApplying).desc).map (fun d => d.parameters.length) = some 3) := ⟨(hb_w1 19 (by decide +kernel)), by decide +kernel⟩
theorem ci_mX0_gatherApplying : Cond.instanceMethod (ab_my mX0_gatherApplying) ∈ hb_TB := (hb_w7 179 (by decide +kernel))
theorem cs_mX0_gatherApplying : Cond.selects (ab_my mX0_gatherApplying).cls (ab_my mX0_gatherApplying) (ab_my mX0_gatherApplying) ∈ hb_TB := (hb_w0 75 (by decide +kernel))
theorem ca_mX0_isLaid : Cond.initialized (ab_my mX0_isLaid).cls ∈ hb_TB ∧ ((ab_my mX0_isLaid).cls ≠ "java/lang/invoke/MethodHandle" ∧ (ab_my mX0_isLaid).cls ≠ "java/lang/invoke/VarHandle" ∧ (parseMethodDescriptor (ab_my mX0_isLaid).desc).map (fun d => d.parameters.length) = some 3) := ⟨(hb_w1 19 (by decide +kernel)), by decide +kernel⟩
theorem ci_mX0_isLaid : Cond.instanceMethod (ab_my mX0_isLaid) ∈ hb_TB := (hb_w7 197 (by decide +kernel))
theorem cs_mX0_isLaid : Cond.selects (ab_my mX0_isLaid).cls (ab_my mX0_isLaid) (ab_my mX0_isLaid) ∈ hb_TB := (hb_w0 78 (by decide +kernel))
theorem ca_mX0_gatherGroup : Cond.initialized (ab_my mX0_gatherGroup).cls ∈ hb_TB ∧ ((ab_my mX0_gatherGroup).cls ≠ "java/lang/invoke/MethodHandle" ∧ (ab_my mX0_gatherGroup).cls ≠ "java/lang/invoke/VarHandle" ∧ (parseMethodDescriptor (ab_my mX0_gatherGroup).desc).map (fun d => d.parameters.length) = some 2) := ⟨(hb_w1 19 (by decide +kernel)), by decide +kernel⟩
theorem ci_mX0_gatherGroup : Cond.instanceMethod (ab_my mX0_gatherGroup) ∈ hb_TB := (hb_w7 201 (by decide +kernel))
theorem cs_mX0_gatherGroup : Cond.selects (ab_my mX0_gatherGroup).cls (ab_my mX0_gatherGroup) (ab_my mX0_gatherGroup) ∈ hb_TB := (hb_w0 79 (by decide +kernel))
theorem ca_mX0_layGroup : Cond.initialized (ab_my mX0_layGroup).cls ∈ hb_TB ∧ ((ab_my mX0_layGroup).cls ≠ "java/lang/invoke/MethodHandle" ∧ (ab_my mX0_layGroup).cls ≠ "java/lang/invoke/VarHandle" ∧ (parseMethodDescriptor (ab_my mX0_layGroup).desc).map (fun d => d.parameters.length) = some 3) := ⟨(hb_w1 19 (by decide +kernel)), by decide +kernel⟩
theorem ci_mX0_layGroup : Cond.instanceMethod (ab_my mX0_layGroup) ∈ hb_TB := (hb_w7 205 (by decide +kernel))
theorem cs_mX0_layGroup : Cond.selects (ab_my mX0_layGroup).cls (ab_my mX0_layGroup) (ab_my mX0_layGroup) ∈ hb_TB := (hb_w0 80 (by decide +kernel))
theorem ca_mX11_listFor : Cond.initialized (ab_my mX11_listFor).cls ∈ hb_TB ∧ ((ab_my mX11_listFor).cls ≠ "java/lang/invoke/MethodHandle" ∧ (ab_my mX11_listFor).cls ≠ "java/lang/invoke/VarHandle" ∧ (parseMethodDescriptor (ab_my mX11_listFor).desc).map (fun d => d.parameters.length) = some 3) := ⟨(hb_w1 2 (by decide +kernel)), by decide +kernel⟩
theorem ci_mX11_listFor : Cond.instanceMethod (ab_my mX11_listFor) ∈ hb_TB := (hb_w7 87 (by decide +kernel))
theorem cs_mX11_listFor : Cond.selects (ab_my mX11_listFor).cls (ab_my mX11_listFor) (ab_my mX11_listFor) ∈ hb_TB := (hb_w7 88 (by decide +kernel))
theorem ca_mX0_isOn : Cond.initialized (ab_my mX0_isOn).cls ∈ hb_TB ∧ ((ab_my mX0_isOn).cls ≠ "java/lang/invoke/MethodHandle" ∧ (ab_my mX0_isOn).cls ≠ "java/lang/invoke/VarHandle" ∧ (parseMethodDescriptor (ab_my mX0_isOn).desc).map (fun d => d.parameters.length) = some 2) := ⟨(hb_w1 19 (by decide +kernel)), by decide +kernel⟩
theorem ct_mX0_isOn : Cond.static (ab_my mX0_isOn) ∈ hb_TB := (hb_w7 183 (by decide +kernel))
theorem ca_mX0_takes : Cond.initialized (ab_my mX0_takes).cls ∈ hb_TB ∧ ((ab_my mX0_takes).cls ≠ "java/lang/invoke/MethodHandle" ∧ (ab_my mX0_takes).cls ≠ "java/lang/invoke/VarHandle" ∧ (parseMethodDescriptor (ab_my mX0_takes).desc).map (fun d => d.parameters.length) = some 2) := ⟨(hb_w1 19 (by decide +kernel)), by decide +kernel⟩
theorem ci_mX0_takes : Cond.instanceMethod (ab_my mX0_takes) ∈ hb_TB := (hb_w7 188 (by decide +kernel))
theorem cs_mX0_takes : Cond.selects (ab_my mX0_takes).cls (ab_my mX0_takes) (ab_my mX0_takes) ∈ hb_TB := (hb_w0 76 (by decide +kernel))
theorem ca_mX0_holds : Cond.initialized (ab_my mX0_holds).cls ∈ hb_TB ∧ ((ab_my mX0_holds).cls ≠ "java/lang/invoke/MethodHandle" ∧ (ab_my mX0_holds).cls ≠ "java/lang/invoke/VarHandle" ∧ (parseMethodDescriptor (ab_my mX0_holds).desc).map (fun d => d.parameters.length) = some 2) := ⟨(hb_w1 19 (by decide +kernel)), by decide +kernel⟩
theorem ci_mX0_holds : Cond.instanceMethod (ab_my mX0_holds) ∈ hb_TB := (hb_w7 192 (by decide +kernel))
theorem cs_mX0_holds : Cond.selects (ab_my mX0_holds).cls (ab_my mX0_holds) (ab_my mX0_holds) ∈ hb_TB := (hb_w0 77 (by decide +kernel))
theorem ca_mX2_isBelow : Cond.initialized (ab_my mX2_isBelow).cls ∈ hb_TB ∧ ((ab_my mX2_isBelow).cls ≠ "java/lang/invoke/MethodHandle" ∧ (ab_my mX2_isBelow).cls ≠ "java/lang/invoke/VarHandle" ∧ (parseMethodDescriptor (ab_my mX2_isBelow).desc).map (fun d => d.parameters.length) = some 2) := ⟨(hb_w1 3 (by decide +kernel)), by decide +kernel⟩
theorem ci_mX2_isBelow : Cond.instanceMethod (ab_my mX2_isBelow) ∈ hb_TB := (hb_w2 116 (by decide +kernel))
theorem cs_mX2_isBelow : Cond.selects (ab_my mX2_isBelow).cls (ab_my mX2_isBelow) (ab_my mX2_isBelow) ∈ hb_TB := (hb_w2 117 (by decide +kernel))
theorem ca_mX6_compare : Cond.initialized (ab_my mX6_compare).cls ∈ hb_TB ∧ ((ab_my mX6_compare).cls ≠ "java/lang/invoke/MethodHandle" ∧ (ab_my mX6_compare).cls ≠ "java/lang/invoke/VarHandle" ∧ (parseMethodDescriptor (ab_my mX6_compare).desc).map (fun d => d.parameters.length) = some 3) := ⟨(hb_w1 14 (by decide +kernel)), by decide +kernel⟩
theorem ci_mX6_compare : Cond.instanceMethod (ab_my mX6_compare) ∈ hb_TB := (hb_w6 175 (by decide +kernel))
theorem cs_mX6_compare : Cond.selects (ab_my mX6_compare).cls (ab_my mX6_compare) (ab_my mX6_compare) ∈ hb_TB := (hb_w6 176 (by decide +kernel))
theorem ca_mX0_pickNext : Cond.initialized (ab_my mX0_pickNext).cls ∈ hb_TB ∧ ((ab_my mX0_pickNext).cls ≠ "java/lang/invoke/MethodHandle" ∧ (ab_my mX0_pickNext).cls ≠ "java/lang/invoke/VarHandle" ∧ (parseMethodDescriptor (ab_my mX0_pickNext).desc).map (fun d => d.parameters.length) = some 2) := ⟨(hb_w1 19 (by decide +kernel)), by decide +kernel⟩
theorem ci_mX0_pickNext : Cond.instanceMethod (ab_my mX0_pickNext) ∈ hb_TB := (hb_w7 210 (by decide +kernel))
theorem cs_mX0_pickNext : Cond.selects (ab_my mX0_pickNext).cls (ab_my mX0_pickNext) (ab_my mX0_pickNext) ∈ hb_TB := (hb_w0 81 (by decide +kernel))
theorem ca_mJ7_copyOf_59c91 : Cond.initialized (ab_my mJ7_copyOf_59c91).cls ∈ hb_TB ∧ ((ab_my mJ7_copyOf_59c91).cls ≠ "java/lang/invoke/MethodHandle" ∧ (ab_my mJ7_copyOf_59c91).cls ≠ "java/lang/invoke/VarHandle" ∧ (parseMethodDescriptor (ab_my mJ7_copyOf_59c91).desc).map (fun d => d.parameters.length) = some 2) := ⟨(hb_w1 12 (by decide +kernel)), by decide +kernel⟩
theorem ct_mJ7_copyOf_59c91 : Cond.static (ab_my mJ7_copyOf_59c91) ∈ hb_TB := (hb_w5 131 (by decide +kernel))
theorem ca_mJ6_bitCount_0f7a4 : Cond.initialized (ab_my mJ6_bitCount_0f7a4).cls ∈ hb_TB ∧ ((ab_my mJ6_bitCount_0f7a4).cls ≠ "java/lang/invoke/MethodHandle" ∧ (ab_my mJ6_bitCount_0f7a4).cls ≠ "java/lang/invoke/VarHandle" ∧ (parseMethodDescriptor (ab_my mJ6_bitCount_0f7a4).desc).map (fun d => d.parameters.length) = some 1) := ⟨(hb_w1 11 (by decide +kernel)), by decide +kernel⟩
theorem ct_mJ6_bitCount_0f7a4 : Cond.static (ab_my mJ6_bitCount_0f7a4) ∈ hb_TB := (hb_w2 52 (by decide +kernel))
theorem ca_mX2_merge : Cond.initialized (ab_my mX2_merge).cls ∈ hb_TB ∧ ((ab_my mX2_merge).cls ≠ "java/lang/invoke/MethodHandle" ∧ (ab_my mX2_merge).cls ≠ "java/lang/invoke/VarHandle" ∧ (parseMethodDescriptor (ab_my mX2_merge).desc).map (fun d => d.parameters.length) = some 1) := ⟨(hb_w1 3 (by decide +kernel)), by decide +kernel⟩
theorem ci_mX2_merge : Cond.instanceMethod (ab_my mX2_merge) ∈ hb_TB := (hb_w2 59 (by decide +kernel))
theorem cs_mX2_merge : Cond.selects (ab_my mX2_merge).cls (ab_my mX2_merge) (ab_my mX2_merge) ∈ hb_TB := (hb_w0 0 (by decide +kernel))
theorem ca_mX2_joinByFirst : Cond.initialized (ab_my mX2_joinByFirst).cls ∈ hb_TB ∧ ((ab_my mX2_joinByFirst).cls ≠ "java/lang/invoke/MethodHandle" ∧ (ab_my mX2_joinByFirst).cls ≠ "java/lang/invoke/VarHandle" ∧ (parseMethodDescriptor (ab_my mX2_joinByFirst).desc).map (fun d => d.parameters.length) = some 1) := ⟨(hb_w1 3 (by decide +kernel)), by decide +kernel⟩
theorem ci_mX2_joinByFirst : Cond.instanceMethod (ab_my mX2_joinByFirst) ∈ hb_TB := (hb_w2 86 (by decide +kernel))
theorem cs_mX2_joinByFirst : Cond.selects (ab_my mX2_joinByFirst).cls (ab_my mX2_joinByFirst) (ab_my mX2_joinByFirst) ∈ hb_TB := (hb_w0 6 (by decide +kernel))
theorem ca_mX2_joinByLast : Cond.initialized (ab_my mX2_joinByLast).cls ∈ hb_TB ∧ ((ab_my mX2_joinByLast).cls ≠ "java/lang/invoke/MethodHandle" ∧ (ab_my mX2_joinByLast).cls ≠ "java/lang/invoke/VarHandle" ∧ (parseMethodDescriptor (ab_my mX2_joinByLast).desc).map (fun d => d.parameters.length) = some 1) := ⟨(hb_w1 3 (by decide +kernel)), by decide +kernel⟩
theorem ci_mX2_joinByLast : Cond.instanceMethod (ab_my mX2_joinByLast) ∈ hb_TB := (hb_w2 94 (by decide +kernel))
theorem cs_mX2_joinByLast : Cond.selects (ab_my mX2_joinByLast).cls (ab_my mX2_joinByLast) (ab_my mX2_joinByLast) ∈ hb_TB := (hb_w0 7 (by decide +kernel))
theorem ca_mX2_inRow : Cond.initialized (ab_my mX2_inRow).cls ∈ hb_TB ∧ ((ab_my mX2_inRow).cls ≠ "java/lang/invoke/MethodHandle" ∧ (ab_my mX2_inRow).cls ≠ "java/lang/invoke/VarHandle" ∧ (parseMethodDescriptor (ab_my mX2_inRow).desc).map (fun d => d.parameters.length) = some 3) := ⟨(hb_w1 3 (by decide +kernel)), by decide +kernel⟩
theorem ci_mX2_inRow : Cond.instanceMethod (ab_my mX2_inRow) ∈ hb_TB := (hb_w2 89 (by decide +kernel))
theorem cs_mX2_inRow : Cond.selects (ab_my mX2_inRow).cls (ab_my mX2_inRow) (ab_my mX2_inRow) ∈ hb_TB := (hb_w2 90 (by decide +kernel))
theorem ca_mJ7_fill_53178 : Cond.initialized (ab_my mJ7_fill_53178).cls ∈ hb_TB ∧ ((ab_my mJ7_fill_53178).cls ≠ "java/lang/invoke/MethodHandle" ∧ (ab_my mJ7_fill_53178).cls ≠ "java/lang/invoke/VarHandle" ∧ (parseMethodDescriptor (ab_my mJ7_fill_53178).desc).map (fun d => d.parameters.length) = some 2) := ⟨(hb_w1 12 (by decide +kernel)), by decide +kernel⟩
theorem ct_mJ7_fill_53178 : Cond.static (ab_my mJ7_fill_53178) ∈ hb_TB := (hb_w2 62 (by decide +kernel))
theorem ca_mX2_putInRow : Cond.initialized (ab_my mX2_putInRow).cls ∈ hb_TB ∧ ((ab_my mX2_putInRow).cls ≠ "java/lang/invoke/MethodHandle" ∧ (ab_my mX2_putInRow).cls ≠ "java/lang/invoke/VarHandle" ∧ (parseMethodDescriptor (ab_my mX2_putInRow).desc).map (fun d => d.parameters.length) = some 4) := ⟨(hb_w1 3 (by decide +kernel)), by decide +kernel⟩
theorem ci_mX2_putInRow : Cond.instanceMethod (ab_my mX2_putInRow) ∈ hb_TB := (hb_w2 66 (by decide +kernel))
theorem cs_mX2_putInRow : Cond.selects (ab_my mX2_putInRow).cls (ab_my mX2_putInRow) (ab_my mX2_putInRow) ∈ hb_TB := (hb_w0 1 (by decide +kernel))
theorem ca_mX2_firstFreeHead : Cond.initialized (ab_my mX2_firstFreeHead).cls ∈ hb_TB ∧ ((ab_my mX2_firstFreeHead).cls ≠ "java/lang/invoke/MethodHandle" ∧ (ab_my mX2_firstFreeHead).cls ≠ "java/lang/invoke/VarHandle" ∧ (parseMethodDescriptor (ab_my mX2_firstFreeHead).desc).map (fun d => d.parameters.length) = some 0) := ⟨(hb_w1 3 (by decide +kernel)), by decide +kernel⟩
theorem ci_mX2_firstFreeHead : Cond.instanceMethod (ab_my mX2_firstFreeHead) ∈ hb_TB := (hb_w2 70 (by decide +kernel))
theorem cs_mX2_firstFreeHead : Cond.selects (ab_my mX2_firstFreeHead).cls (ab_my mX2_firstFreeHead) (ab_my mX2_firstFreeHead) ∈ hb_TB := (hb_w0 2 (by decide +kernel))
theorem ca_mX2_listLength : Cond.initialized (ab_my mX2_listLength).cls ∈ hb_TB ∧ ((ab_my mX2_listLength).cls ≠ "java/lang/invoke/MethodHandle" ∧ (ab_my mX2_listLength).cls ≠ "java/lang/invoke/VarHandle" ∧ (parseMethodDescriptor (ab_my mX2_listLength).desc).map (fun d => d.parameters.length) = some 1) := ⟨(hb_w1 3 (by decide +kernel)), by decide +kernel⟩
theorem ci_mX2_listLength : Cond.instanceMethod (ab_my mX2_listLength) ∈ hb_TB := (hb_w2 74 (by decide +kernel))
theorem cs_mX2_listLength : Cond.selects (ab_my mX2_listLength).cls (ab_my mX2_listLength) (ab_my mX2_listLength) ∈ hb_TB := (hb_w0 3 (by decide +kernel))
theorem ca_mX2_inList : Cond.initialized (ab_my mX2_inList).cls ∈ hb_TB ∧ ((ab_my mX2_inList).cls ≠ "java/lang/invoke/MethodHandle" ∧ (ab_my mX2_inList).cls ≠ "java/lang/invoke/VarHandle" ∧ (parseMethodDescriptor (ab_my mX2_inList).desc).map (fun d => d.parameters.length) = some 2) := ⟨(hb_w1 3 (by decide +kernel)), by decide +kernel⟩
theorem ci_mX2_inList : Cond.instanceMethod (ab_my mX2_inList) ∈ hb_TB := (hb_w2 78 (by decide +kernel))
theorem cs_mX2_inList : Cond.selects (ab_my mX2_inList).cls (ab_my mX2_inList) (ab_my mX2_inList) ∈ hb_TB := (hb_w0 4 (by decide +kernel))
theorem ca_mX2_isBehindAHead : Cond.initialized (ab_my mX2_isBehindAHead).cls ∈ hb_TB ∧ ((ab_my mX2_isBehindAHead).cls ≠ "java/lang/invoke/MethodHandle" ∧ (ab_my mX2_isBehindAHead).cls ≠ "java/lang/invoke/VarHandle" ∧ (parseMethodDescriptor (ab_my mX2_isBehindAHead).desc).map (fun d => d.parameters.length) = some 1) := ⟨(hb_w1 3 (by decide +kernel)), by decide +kernel⟩
theorem ci_mX2_isBehindAHead : Cond.instanceMethod (ab_my mX2_isBehindAHead) ∈ hb_TB := (hb_w2 82 (by decide +kernel))
theorem cs_mX2_isBehindAHead : Cond.selects (ab_my mX2_isBehindAHead).cls (ab_my mX2_isBehindAHead) (ab_my mX2_isBehindAHead) ∈ hb_TB := (hb_w0 5 (by decide +kernel))
theorem ca_mX3_plan : Cond.initialized (ab_my mX3_plan).cls ∈ hb_TB ∧ ((ab_my mX3_plan).cls ≠ "java/lang/invoke/MethodHandle" ∧ (ab_my mX3_plan).cls ≠ "java/lang/invoke/VarHandle" ∧ (parseMethodDescriptor (ab_my mX3_plan).desc).map (fun d => d.parameters.length) = some 1) := ⟨(hb_w1 16 (by decide +kernel)), by decide +kernel⟩
theorem ci_mX3_plan : Cond.instanceMethod (ab_my mX3_plan) ∈ hb_TB := (hb_w7 23 (by decide +kernel))
theorem cs_mX3_plan : Cond.selects (ab_my mX3_plan).cls (ab_my mX3_plan) (ab_my mX3_plan) ∈ hb_TB := (hb_w0 57 (by decide +kernel))
theorem ca_mX3_countSets : Cond.initialized (ab_my mX3_countSets).cls ∈ hb_TB ∧ ((ab_my mX3_countSets).cls ≠ "java/lang/invoke/MethodHandle" ∧ (ab_my mX3_countSets).cls ≠ "java/lang/invoke/VarHandle" ∧ (parseMethodDescriptor (ab_my mX3_countSets).desc).map (fun d => d.parameters.length) = some 3) := ⟨(hb_w1 16 (by decide +kernel)), by decide +kernel⟩
theorem ci_mX3_countSets : Cond.instanceMethod (ab_my mX3_countSets) ∈ hb_TB := (hb_w7 38 (by decide +kernel))
theorem cs_mX3_countSets : Cond.selects (ab_my mX3_countSets).cls (ab_my mX3_countSets) (ab_my mX3_countSets) ∈ hb_TB := (hb_w0 59 (by decide +kernel))
theorem ca_mX3_emptySet : Cond.initialized (ab_my mX3_emptySet).cls ∈ hb_TB ∧ ((ab_my mX3_emptySet).cls ≠ "java/lang/invoke/MethodHandle" ∧ (ab_my mX3_emptySet).cls ≠ "java/lang/invoke/VarHandle" ∧ (parseMethodDescriptor (ab_my mX3_emptySet).desc).map (fun d => d.parameters.length) = some 0) := ⟨(hb_w1 16 (by decide +kernel)), by decide +kernel⟩
theorem ci_mX3_emptySet : Cond.instanceMethod (ab_my mX3_emptySet) ∈ hb_TB := (hb_w7 42 (by decide +kernel))
theorem cs_mX3_emptySet : Cond.selects (ab_my mX3_emptySet).cls (ab_my mX3_emptySet) (ab_my mX3_emptySet) ∈ hb_TB := (hb_w0 60 (by decide +kernel))
theorem ca_mX3_makeRoomInSet : Cond.initialized (ab_my mX3_makeRoomInSet).cls ∈ hb_TB ∧ ((ab_my mX3_makeRoomInSet).cls ≠ "java/lang/invoke/MethodHandle" ∧ (ab_my mX3_makeRoomInSet).cls ≠ "java/lang/invoke/VarHandle" ∧ (parseMethodDescriptor (ab_my mX3_makeRoomInSet).desc).map (fun d => d.parameters.length) = some 0) := ⟨(hb_w1 16 (by decide +kernel)), by decide +kernel⟩
theorem ci_mX3_makeRoomInSet : Cond.instanceMethod (ab_my mX3_makeRoomInSet) ∈ hb_TB := (hb_w7 50 (by decide +kernel))
theorem cs_mX3_makeRoomInSet : Cond.selects (ab_my mX3_makeRoomInSet).cls (ab_my mX3_makeRoomInSet) (ab_my mX3_makeRoomInSet) ∈ hb_TB := (hb_w0 62 (by decide +kernel))
theorem ca_mX3_addToSet : Cond.initialized (ab_my mX3_addToSet).cls ∈ hb_TB ∧ ((ab_my mX3_addToSet).cls ≠ "java/lang/invoke/MethodHandle" ∧ (ab_my mX3_addToSet).cls ≠ "java/lang/invoke/VarHandle" ∧ (parseMethodDescriptor (ab_my mX3_addToSet).desc).map (fun d => d.parameters.length) = some 2) := ⟨(hb_w1 16 (by decide +kernel)), by decide +kernel⟩
theorem ci_mX3_addToSet : Cond.instanceMethod (ab_my mX3_addToSet) ∈ hb_TB := (hb_w7 60 (by decide +kernel))
theorem cs_mX3_addToSet : Cond.selects (ab_my mX3_addToSet).cls (ab_my mX3_addToSet) (ab_my mX3_addToSet) ∈ hb_TB := (hb_w0 64 (by decide +kernel))
theorem ca_mX11_methodsOf : Cond.initialized (ab_my mX11_methodsOf).cls ∈ hb_TB ∧ ((ab_my mX11_methodsOf).cls ≠ "java/lang/invoke/MethodHandle" ∧ (ab_my mX11_methodsOf).cls ≠ "java/lang/invoke/VarHandle" ∧ (parseMethodDescriptor (ab_my mX11_methodsOf).desc).map (fun d => d.parameters.length) = some 1) := ⟨(hb_w1 2 (by decide +kernel)), by decide +kernel⟩
theorem ci_mX11_methodsOf : Cond.instanceMethod (ab_my mX11_methodsOf) ∈ hb_TB := (hb_w7 8 (by decide +kernel))
theorem cs_mX11_methodsOf : Cond.selects (ab_my mX11_methodsOf).cls (ab_my mX11_methodsOf) (ab_my mX11_methodsOf) ∈ hb_TB := (hb_w7 9 (by decide +kernel))
theorem ca_mX3_looksInTree : Cond.initialized (ab_my mX3_looksInTree).cls ∈ hb_TB ∧ ((ab_my mX3_looksInTree).cls ≠ "java/lang/invoke/MethodHandle" ∧ (ab_my mX3_looksInTree).cls ≠ "java/lang/invoke/VarHandle" ∧ (parseMethodDescriptor (ab_my mX3_looksInTree).desc).map (fun d => d.parameters.length) = some 2) := ⟨(hb_w1 16 (by decide +kernel)), by decide +kernel⟩
theorem ci_mX3_looksInTree : Cond.instanceMethod (ab_my mX3_looksInTree) ∈ hb_TB := (hb_w7 175 (by decide +kernel))
theorem cs_mX3_looksInTree : Cond.selects (ab_my mX3_looksInTree).cls (ab_my mX3_looksInTree) (ab_my mX3_looksInTree) ∈ hb_TB := (hb_w0 74 (by decide +kernel))
theorem ca_mX3_matters : Cond.initialized (ab_my mX3_matters).cls ∈ hb_TB ∧ ((ab_my mX3_matters).cls ≠ "java/lang/invoke/MethodHandle" ∧ (ab_my mX3_matters).cls ≠ "java/lang/invoke/VarHandle" ∧ (parseMethodDescriptor (ab_my mX3_matters).desc).map (fun d => d.parameters.length) = some 4) := ⟨(hb_w1 16 (by decide +kernel)), by decide +kernel⟩
theorem ci_mX3_matters : Cond.instanceMethod (ab_my mX3_matters) ∈ hb_TB := (hb_w7 46 (by decide +kernel))
theorem cs_mX3_matters : Cond.selects (ab_my mX3_matters).cls (ab_my mX3_matters) (ab_my mX3_matters) ∈ hb_TB := (hb_w0 61 (by decide +kernel))
theorem ca_mX3_findLive : Cond.initialized (ab_my mX3_findLive).cls ∈ hb_TB ∧ ((ab_my mX3_findLive).cls ≠ "java/lang/invoke/MethodHandle" ∧ (ab_my mX3_findLive).cls ≠ "java/lang/invoke/VarHandle" ∧ (parseMethodDescriptor (ab_my mX3_findLive).desc).map (fun d => d.parameters.length) = some 1) := ⟨(hb_w1 16 (by decide +kernel)), by decide +kernel⟩
theorem ci_mX3_findLive : Cond.instanceMethod (ab_my mX3_findLive) ∈ hb_TB := (hb_w7 27 (by decide +kernel))
theorem cs_mX3_findLive : Cond.selects (ab_my mX3_findLive).cls (ab_my mX3_findLive) (ab_my mX3_findLive) ∈ hb_TB := (hb_w0 58 (by decide +kernel))
theorem ca_mX3_isOrderOf : Cond.initialized (ab_my mX3_isOrderOf).cls ∈ hb_TB ∧ ((ab_my mX3_isOrderOf).cls ≠ "java/lang/invoke/MethodHandle" ∧ (ab_my mX3_isOrderOf).cls ≠ "java/lang/invoke/VarHandle" ∧ (parseMethodDescriptor (ab_my mX3_isOrderOf).desc).map (fun d => d.parameters.length) = some 2) := ⟨(hb_w1 16 (by decide +kernel)), by decide +kernel⟩
theorem ct_mX3_isOrderOf : Cond.static (ab_my mX3_isOrderOf) ∈ hb_TB := (hb_w7 34 (by decide +kernel))
theorem ca_mX3_spotFor : Cond.initialized (ab_my mX3_spotFor).cls ∈ hb_TB ∧ ((ab_my mX3_spotFor).cls ≠ "java/lang/invoke/MethodHandle" ∧ (ab_my mX3_spotFor).cls ≠ "java/lang/invoke/VarHandle" ∧ (parseMethodDescriptor (ab_my mX3_spotFor).desc).map (fun d => d.parameters.length) = some 2) := ⟨(hb_w1 16 (by decide +kernel)), by decide +kernel⟩
theorem ci_mX3_spotFor : Cond.instanceMethod (ab_my mX3_spotFor) ∈ hb_TB := (hb_w7 54 (by decide +kernel))
theorem cs_mX3_spotFor : Cond.selects (ab_my mX3_spotFor).cls (ab_my mX3_spotFor) (ab_my mX3_spotFor) ∈ hb_TB := (hb_w0 63 (by decide +kernel))
theorem ca_mX4_beginRun : Cond.initialized (ab_my mX4_beginRun).cls ∈ hb_TB ∧ ((ab_my mX4_beginRun).cls ≠ "java/lang/invoke/MethodHandle" ∧ (ab_my mX4_beginRun).cls ≠ "java/lang/invoke/VarHandle" ∧ (parseMethodDescriptor (ab_my mX4_beginRun).desc).map (fun d => d.parameters.length) = some 1) := ⟨(hb_w1 18 (by decide +kernel)), by decide +kernel⟩
theorem ci_mX4_beginRun : Cond.instanceMethod (ab_my mX4_beginRun) ∈ hb_TB := (hb_w7 146 (by decide +kernel))
theorem cs_mX4_beginRun : Cond.selects (ab_my mX4_beginRun).cls (ab_my mX4_beginRun) (ab_my mX4_beginRun) ∈ hb_TB := (hb_w0 70 (by decide +kernel))
theorem ca_mX4_finish : Cond.initialized (ab_my mX4_finish).cls ∈ hb_TB ∧ ((ab_my mX4_finish).cls ≠ "java/lang/invoke/MethodHandle" ∧ (ab_my mX4_finish).cls ≠ "java/lang/invoke/VarHandle" ∧ (parseMethodDescriptor (ab_my mX4_finish).desc).map (fun d => d.parameters.length) = some 3) := ⟨(hb_w1 18 (by decide +kernel)), by decide +kernel⟩
theorem ci_mX4_finish : Cond.instanceMethod (ab_my mX4_finish) ∈ hb_TB := (hb_w7 151 (by decide +kernel))
theorem cs_mX4_finish : Cond.selects (ab_my mX4_finish).cls (ab_my mX4_finish) (ab_my mX4_finish) ∈ hb_TB := (hb_w0 71 (by decide +kernel))
theorem ca_mX4_takeGiven : Cond.initialized (ab_my mX4_takeGiven).cls ∈ hb_TB ∧ ((ab_my mX4_takeGiven).cls ≠ "java/lang/invoke/MethodHandle" ∧ (ab_my mX4_takeGiven).cls ≠ "java/lang/invoke/VarHandle" ∧ (parseMethodDescriptor (ab_my mX4_takeGiven).desc).map (fun d => d.parameters.length) = some 1) := ⟨(hb_w1 18 (by decide +kernel)), by decide +kernel⟩
theorem ci_mX4_takeGiven : Cond.instanceMethod (ab_my mX4_takeGiven) ∈ hb_TB := (hb_w7 155 (by decide +kernel))
theorem cs_mX4_takeGiven : Cond.selects (ab_my mX4_takeGiven).cls (ab_my mX4_takeGiven) (ab_my mX4_takeGiven) ∈ hb_TB := (hb_w0 72 (by decide +kernel))
theorem ca_mX0_choose : Cond.initialized (ab_my mX0_choose).cls ∈ hb_TB ∧ ((ab_my mX0_choose).cls ≠ "java/lang/invoke/MethodHandle" ∧ (ab_my mX0_choose).cls ≠ "java/lang/invoke/VarHandle" ∧ (parseMethodDescriptor (ab_my mX0_choose).desc).map (fun d => d.parameters.length) = some 4) := ⟨(hb_w1 19 (by decide +kernel)), by decide +kernel⟩
theorem ci_mX0_choose : Cond.instanceMethod (ab_my mX0_choose) ∈ hb_TB := (hb_w7 162 (by decide +kernel))
theorem cs_mX0_choose : Cond.selects (ab_my mX0_choose).cls (ab_my mX0_choose) (ab_my mX0_choose) ∈ hb_TB := (hb_w7 163 (by decide +kernel))
theorem ca_mX4_beginCall : Cond.initialized (ab_my mX4_beginCall).cls ∈ hb_TB ∧ ((ab_my mX4_beginCall).cls ≠ "java/lang/invoke/MethodHandle" ∧ (ab_my mX4_beginCall).cls ≠ "java/lang/invoke/VarHandle" ∧ (parseMethodDescriptor (ab_my mX4_beginCall).desc).map (fun d => d.parameters.length) = some 1) := ⟨(hb_w1 18 (by decide +kernel)), by decide +kernel⟩
theorem ci_mX4_beginCall : Cond.instanceMethod (ab_my mX4_beginCall) ∈ hb_TB := (hb_w7 214 (by decide +kernel))
theorem cs_mX4_beginCall : Cond.selects (ab_my mX4_beginCall).cls (ab_my mX4_beginCall) (ab_my mX4_beginCall) ∈ hb_TB := (hb_w0 82 (by decide +kernel))
theorem ca_mX4_goToNext : Cond.initialized (ab_my mX4_goToNext).cls ∈ hb_TB ∧ ((ab_my mX4_goToNext).cls ≠ "java/lang/invoke/MethodHandle" ∧ (ab_my mX4_goToNext).cls ≠ "java/lang/invoke/VarHandle" ∧ (parseMethodDescriptor (ab_my mX4_goToNext).desc).map (fun d => d.parameters.length) = some 1) := ⟨(hb_w1 18 (by decide +kernel)), by decide +kernel⟩
theorem ci_mX4_goToNext : Cond.instanceMethod (ab_my mX4_goToNext) ∈ hb_TB := (hb_w8 22 (by decide +kernel))
theorem cs_mX4_goToNext : Cond.selects (ab_my mX4_goToNext).cls (ab_my mX4_goToNext) (ab_my mX4_goToNext) ∈ hb_TB := (hb_w0 89 (by decide +kernel))
theorem ca_mX4_pop : Cond.initialized (ab_my mX4_pop).cls ∈ hb_TB ∧ ((ab_my mX4_pop).cls ≠ "java/lang/invoke/MethodHandle" ∧ (ab_my mX4_pop).cls ≠ "java/lang/invoke/VarHandle" ∧ (parseMethodDescriptor (ab_my mX4_pop).desc).map (fun d => d.parameters.length) = some 0) := ⟨(hb_w1 18 (by decide +kernel)), by decide +kernel⟩
theorem ci_mX4_pop : Cond.instanceMethod (ab_my mX4_pop) ∈ hb_TB := (hb_w7 159 (by decide +kernel))
theorem cs_mX4_pop : Cond.selects (ab_my mX4_pop).cls (ab_my mX4_pop) (ab_my mX4_pop) ∈ hb_TB := (hb_w0 73 (by decide +kernel))
theorem ca_mX4_endMethod : Cond.initialized (ab_my mX4_endMethod).cls ∈ hb_TB ∧ ((ab_my mX4_endMethod).cls ≠ "java/lang/invoke/MethodHandle" ∧ (ab_my mX4_endMethod).cls ≠ "java/lang/invoke/VarHandle" ∧ (parseMethodDescriptor (ab_my mX4_endMethod).desc).map (fun d => d.parameters.length) = some 1) := ⟨(hb_w1 18 (by decide +kernel)), by decide +kernel⟩
theorem ci_mX4_endMethod : Cond.instanceMethod (ab_my mX4_endMethod) ∈ hb_TB := (hb_w8 26 (by decide +kernel))
theorem cs_mX4_endMethod : Cond.selects (ab_my mX4_endMethod).cls (ab_my mX4_endMethod) (ab_my mX4_endMethod) ∈ hb_TB := (hb_w0 90 (by decide +kernel))
theorem ca_mX4_failWith : Cond.initialized (ab_my mX4_failWith).cls ∈ hb_TB ∧ ((ab_my mX4_failWith).cls ≠ "java/lang/invoke/MethodHandle" ∧ (ab_my mX4_failWith).cls ≠ "java/lang/invoke/VarHandle" ∧ (parseMethodDescriptor (ab_my mX4_failWith).desc).map (fun d => d.parameters.length) = some 1) := ⟨(hb_w1 18 (by decide +kernel)), by decide +kernel⟩
theorem ci_mX4_failWith : Cond.instanceMethod (ab_my mX4_failWith) ∈ hb_TB := (hb_w8 36 (by decide +kernel))
theorem cs_mX4_failWith : Cond.selects (ab_my mX4_failWith).cls (ab_my mX4_failWith) (ab_my mX4_failWith) ∈ hb_TB := (hb_w0 92 (by decide +kernel))
theorem ca_mX4_obey : Cond.initialized (ab_my mX4_obey).cls ∈ hb_TB ∧ ((ab_my mX4_obey).cls ≠ "java/lang/invoke/MethodHandle" ∧ (ab_my mX4_obey).cls ≠ "java/lang/invoke/VarHandle" ∧ (parseMethodDescriptor (ab_my mX4_obey).desc).map (fun d => d.parameters.length) = some 2) := ⟨(hb_w1 18 (by decide +kernel)), by decide +kernel⟩
theorem ci_mX4_obey : Cond.instanceMethod (ab_my mX4_obey) ∈ hb_TB := (hb_w8 40 (by decide +kernel))
theorem cs_mX4_obey : Cond.selects (ab_my mX4_obey).cls (ab_my mX4_obey) (ab_my mX4_obey) ∈ hb_TB := (hb_w0 93 (by decide +kernel))
theorem ca_mX4_valueOf : Cond.initialized (ab_my mX4_valueOf).cls ∈ hb_TB ∧ ((ab_my mX4_valueOf).cls ≠ "java/lang/invoke/MethodHandle" ∧ (ab_my mX4_valueOf).cls ≠ "java/lang/invoke/VarHandle" ∧ (parseMethodDescriptor (ab_my mX4_valueOf).desc).map (fun d => d.parameters.length) = some 2) := ⟨(hb_w1 18 (by decide +kernel)), by decide +kernel⟩
theorem ct_mX4_valueOf : Cond.static (ab_my mX4_valueOf) ∈ hb_TB := (hb_w8 0 (by decide +kernel))
theorem ca_mX4_push : Cond.initialized (ab_my mX4_push).cls ∈ hb_TB ∧ ((ab_my mX4_push).cls ≠ "java/lang/invoke/MethodHandle" ∧ (ab_my mX4_push).cls ≠ "java/lang/invoke/VarHandle" ∧ (parseMethodDescriptor (ab_my mX4_push).desc).map (fun d => d.parameters.length) = some 1) := ⟨(hb_w1 18 (by decide +kernel)), by decide +kernel⟩
theorem ci_mX4_push : Cond.instanceMethod (ab_my mX4_push) ∈ hb_TB := (hb_w8 18 (by decide +kernel))
theorem cs_mX4_push : Cond.selects (ab_my mX4_push).cls (ab_my mX4_push) (ab_my mX4_push) ∈ hb_TB := (hb_w0 88 (by decide +kernel))
theorem ca_mX4_without : Cond.initialized (ab_my mX4_without).cls ∈ hb_TB ∧ ((ab_my mX4_without).cls ≠ "java/lang/invoke/MethodHandle" ∧ (ab_my mX4_without).cls ≠ "java/lang/invoke/VarHandle" ∧ (parseMethodDescriptor (ab_my mX4_without).desc).map (fun d => d.parameters.length) = some 2) := ⟨(hb_w1 18 (by decide +kernel)), by decide +kernel⟩
theorem ct_mX4_without : Cond.static (ab_my mX4_without) ∈ hb_TB := (hb_w8 43 (by decide +kernel))
theorem ca_mX4_beginTry : Cond.initialized (ab_my mX4_beginTry).cls ∈ hb_TB ∧ ((ab_my mX4_beginTry).cls ≠ "java/lang/invoke/MethodHandle" ∧ (ab_my mX4_beginTry).cls ≠ "java/lang/invoke/VarHandle" ∧ (parseMethodDescriptor (ab_my mX4_beginTry).desc).map (fun d => d.parameters.length) = some 1) := ⟨(hb_w1 18 (by decide +kernel)), by decide +kernel⟩
theorem ci_mX4_beginTry : Cond.instanceMethod (ab_my mX4_beginTry) ∈ hb_TB := (hb_w8 48 (by decide +kernel))
theorem cs_mX4_beginTry : Cond.selects (ab_my mX4_beginTry).cls (ab_my mX4_beginTry) (ab_my mX4_beginTry) ∈ hb_TB := (hb_w0 94 (by decide +kernel))
theorem ca_mX4_endTry : Cond.initialized (ab_my mX4_endTry).cls ∈ hb_TB ∧ ((ab_my mX4_endTry).cls ≠ "java/lang/invoke/MethodHandle" ∧ (ab_my mX4_endTry).cls ≠ "java/lang/invoke/VarHandle" ∧ (parseMethodDescriptor (ab_my mX4_endTry).desc).map (fun d => d.parameters.length) = some 1) := ⟨(hb_w1 18 (by decide +kernel)), by decide +kernel⟩
theorem ci_mX4_endTry : Cond.instanceMethod (ab_my mX4_endTry) ∈ hb_TB := (hb_w8 52 (by decide +kernel))
theorem cs_mX4_endTry : Cond.selects (ab_my mX4_endTry).cls (ab_my mX4_endTry) (ab_my mX4_endTry) ∈ hb_TB := (hb_w0 95 (by decide +kernel))
theorem ca_mX4_showTop : Cond.initialized (ab_my mX4_showTop).cls ∈ hb_TB ∧ ((ab_my mX4_showTop).cls ≠ "java/lang/invoke/MethodHandle" ∧ (ab_my mX4_showTop).cls ≠ "java/lang/invoke/VarHandle" ∧ (parseMethodDescriptor (ab_my mX4_showTop).desc).map (fun d => d.parameters.length) = some 0) := ⟨(hb_w1 18 (by decide +kernel)), by decide +kernel⟩
theorem ci_mX4_showTop : Cond.instanceMethod (ab_my mX4_showTop) ∈ hb_TB := (hb_w8 56 (by decide +kernel))
theorem cs_mX4_showTop : Cond.selects (ab_my mX4_showTop).cls (ab_my mX4_showTop) (ab_my mX4_showTop) ∈ hb_TB := (hb_w0 96 (by decide +kernel))
theorem ca_mX4_reckon : Cond.initialized (ab_my mX4_reckon).cls ∈ hb_TB ∧ ((ab_my mX4_reckon).cls ≠ "java/lang/invoke/MethodHandle" ∧ (ab_my mX4_reckon).cls ≠ "java/lang/invoke/VarHandle" ∧ (parseMethodDescriptor (ab_my mX4_reckon).desc).map (fun d => d.parameters.length) = some 2) := ⟨(hb_w1 18 (by decide +kernel)), by decide +kernel⟩
theorem ci_mX4_reckon : Cond.instanceMethod (ab_my mX4_reckon) ∈ hb_TB := (hb_w8 60 (by decide +kernel))
theorem cs_mX4_reckon : Cond.selects (ab_my mX4_reckon).cls (ab_my mX4_reckon) (ab_my mX4_reckon) ∈ hb_TB := (hb_w0 97 (by decide +kernel))
theorem ca_mX4_joinTwo : Cond.initialized (ab_my mX4_joinTwo).cls ∈ hb_TB ∧ ((ab_my mX4_joinTwo).cls ≠ "java/lang/invoke/MethodHandle" ∧ (ab_my mX4_joinTwo).cls ≠ "java/lang/invoke/VarHandle" ∧ (parseMethodDescriptor (ab_my mX4_joinTwo).desc).map (fun d => d.parameters.length) = some 3) := ⟨(hb_w1 18 (by decide +kernel)), by decide +kernel⟩
theorem ct_mX4_joinTwo : Cond.static (ab_my mX4_joinTwo) ∈ hb_TB := (hb_w8 65 (by decide +kernel))
theorem ca_mX0_rowSize : Cond.initialized (ab_my mX0_rowSize).cls ∈ hb_TB ∧ ((ab_my mX0_rowSize).cls ≠ "java/lang/invoke/MethodHandle" ∧ (ab_my mX0_rowSize).cls ≠ "java/lang/invoke/VarHandle" ∧ (parseMethodDescriptor (ab_my mX0_rowSize).desc).map (fun d => d.parameters.length) = some 2) := ⟨(hb_w1 19 (by decide +kernel)), by decide +kernel⟩
theorem ci_mX0_rowSize : Cond.instanceMethod (ab_my mX0_rowSize) ∈ hb_TB := (hb_w7 217 (by decide +kernel))
theorem cs_mX0_rowSize : Cond.selects (ab_my mX0_rowSize).cls (ab_my mX0_rowSize) (ab_my mX0_rowSize) ∈ hb_TB := (hb_w7 218 (by decide +kernel))
theorem ca_mX4_beginMethod : Cond.initialized (ab_my mX4_beginMethod).cls ∈ hb_TB ∧ ((ab_my mX4_beginMethod).cls ≠ "java/lang/invoke/MethodHandle" ∧ (ab_my mX4_beginMethod).cls ≠ "java/lang/invoke/VarHandle" ∧ (parseMethodDescriptor (ab_my mX4_beginMethod).desc).map (fun d => d.parameters.length) = some 5) := ⟨(hb_w1 18 (by decide +kernel)), by decide +kernel⟩
theorem ci_mX4_beginMethod : Cond.instanceMethod (ab_my mX4_beginMethod) ∈ hb_TB := (hb_w7 222 (by decide +kernel))
theorem cs_mX4_beginMethod : Cond.selects (ab_my mX4_beginMethod).cls (ab_my mX4_beginMethod) (ab_my mX4_beginMethod) ∈ hb_TB := (hb_w0 83 (by decide +kernel))
theorem ca_mX0_endsWithSeveral : Cond.initialized (ab_my mX0_endsWithSeveral).cls ∈ hb_TB ∧ ((ab_my mX0_endsWithSeveral).cls ≠ "java/lang/invoke/MethodHandle" ∧ (ab_my mX0_endsWithSeveral).cls ≠ "java/lang/invoke/VarHandle" ∧ (parseMethodDescriptor (ab_my mX0_endsWithSeveral).desc).map (fun d => d.parameters.length) = some 2) := ⟨(hb_w1 19 (by decide +kernel)), by decide +kernel⟩
theorem ci_mX0_endsWithSeveral : Cond.instanceMethod (ab_my mX0_endsWithSeveral) ∈ hb_TB := (hb_w7 230 (by decide +kernel))
theorem cs_mX0_endsWithSeveral : Cond.selects (ab_my mX0_endsWithSeveral).cls (ab_my mX0_endsWithSeveral) (ab_my mX0_endsWithSeveral) ∈ hb_TB := (hb_w7 231 (by decide +kernel))
theorem ca_mX4_beginInside : Cond.initialized (ab_my mX4_beginInside).cls ∈ hb_TB ∧ ((ab_my mX4_beginInside).cls ≠ "java/lang/invoke/MethodHandle" ∧ (ab_my mX4_beginInside).cls ≠ "java/lang/invoke/VarHandle" ∧ (parseMethodDescriptor (ab_my mX4_beginInside).desc).map (fun d => d.parameters.length) = some 2) := ⟨(hb_w1 18 (by decide +kernel)), by decide +kernel⟩
theorem ci_mX4_beginInside : Cond.instanceMethod (ab_my mX4_beginInside) ∈ hb_TB := (hb_w7 235 (by decide +kernel))
theorem cs_mX4_beginInside : Cond.selects (ab_my mX4_beginInside).cls (ab_my mX4_beginInside) (ab_my mX4_beginInside) ∈ hb_TB := (hb_w0 84 (by decide +kernel))
theorem ca_mX0_inRow : Cond.initialized (ab_my mX0_inRow).cls ∈ hb_TB ∧ ((ab_my mX0_inRow).cls ≠ "java/lang/invoke/MethodHandle" ∧ (ab_my mX0_inRow).cls ≠ "java/lang/invoke/VarHandle" ∧ (parseMethodDescriptor (ab_my mX0_inRow).desc).map (fun d => d.parameters.length) = some 3) := ⟨(hb_w1 19 (by decide +kernel)), by decide +kernel⟩
theorem ci_mX0_inRow : Cond.instanceMethod (ab_my mX0_inRow) ∈ hb_TB := (hb_w7 225 (by decide +kernel))
theorem cs_mX0_inRow : Cond.selects (ab_my mX0_inRow).cls (ab_my mX0_inRow) (ab_my mX0_inRow) ∈ hb_TB := (hb_w7 226 (by decide +kernel))
theorem ca_mX4_inFrame : Cond.initialized (ab_my mX4_inFrame).cls ∈ hb_TB ∧ ((ab_my mX4_inFrame).cls ≠ "java/lang/invoke/MethodHandle" ∧ (ab_my mX4_inFrame).cls ≠ "java/lang/invoke/VarHandle" ∧ (parseMethodDescriptor (ab_my mX4_inFrame).desc).map (fun d => d.parameters.length) = some 2) := ⟨(hb_w1 18 (by decide +kernel)), by decide +kernel⟩
theorem ci_mX4_inFrame : Cond.instanceMethod (ab_my mX4_inFrame) ∈ hb_TB := (hb_w8 9 (by decide +kernel))
theorem cs_mX4_inFrame : Cond.selects (ab_my mX4_inFrame).cls (ab_my mX4_inFrame) (ab_my mX4_inFrame) ∈ hb_TB := (hb_w0 86 (by decide +kernel))
theorem ca_mX4_goOnInside : Cond.initialized (ab_my mX4_goOnInside).cls ∈ hb_TB ∧ ((ab_my mX4_goOnInside).cls ≠ "java/lang/invoke/MethodHandle" ∧ (ab_my mX4_goOnInside).cls ≠ "java/lang/invoke/VarHandle" ∧ (parseMethodDescriptor (ab_my mX4_goOnInside).desc).map (fun d => d.parameters.length) = some 0) := ⟨(hb_w1 18 (by decide +kernel)), by decide +kernel⟩
theorem ci_mX4_goOnInside : Cond.instanceMethod (ab_my mX4_goOnInside) ∈ hb_TB := (hb_w8 5 (by decide +kernel))
theorem cs_mX4_goOnInside : Cond.selects (ab_my mX4_goOnInside).cls (ab_my mX4_goOnInside) (ab_my mX4_goOnInside) ∈ hb_TB := (hb_w0 85 (by decide +kernel))
theorem ca_mX4_plainTurns : Cond.initialized (ab_my mX4_plainTurns).cls ∈ hb_TB ∧ ((ab_my mX4_plainTurns).cls ≠ "java/lang/invoke/MethodHandle" ∧ (ab_my mX4_plainTurns).cls ≠ "java/lang/invoke/VarHandle" ∧ (parseMethodDescriptor (ab_my mX4_plainTurns).desc).map (fun d => d.parameters.length) = some 1) := ⟨(hb_w1 18 (by decide +kernel)), by decide +kernel⟩
theorem ci_mX4_plainTurns : Cond.instanceMethod (ab_my mX4_plainTurns) ∈ hb_TB := (hb_w8 13 (by decide +kernel))
theorem cs_mX4_plainTurns : Cond.selects (ab_my mX4_plainTurns).cls (ab_my mX4_plainTurns) (ab_my mX4_plainTurns) ∈ hb_TB := (hb_w0 87 (by decide +kernel))
theorem ca_mX4_joinValue : Cond.initialized (ab_my mX4_joinValue).cls ∈ hb_TB ∧ ((ab_my mX4_joinValue).cls ≠ "java/lang/invoke/MethodHandle" ∧ (ab_my mX4_joinValue).cls ≠ "java/lang/invoke/VarHandle" ∧ (parseMethodDescriptor (ab_my mX4_joinValue).desc).map (fun d => d.parameters.length) = some 2) := ⟨(hb_w1 18 (by decide +kernel)), by decide +kernel⟩
theorem ci_mX4_joinValue : Cond.instanceMethod (ab_my mX4_joinValue) ∈ hb_TB := (hb_w8 30 (by decide +kernel))
theorem cs_mX4_joinValue : Cond.selects (ab_my mX4_joinValue).cls (ab_my mX4_joinValue) (ab_my mX4_joinValue) ∈ hb_TB := (hb_w0 91 (by decide +kernel))
theorem ca_mX5_sameKinds : Cond.initialized (ab_my mX5_sameKinds).cls ∈ hb_TB ∧ ((ab_my mX5_sameKinds).cls ≠ "java/lang/invoke/MethodHandle" ∧ (ab_my mX5_sameKinds).cls ≠ "java/lang/invoke/VarHandle" ∧ (parseMethodDescriptor (ab_my mX5_sameKinds).desc).map (fun d => d.parameters.length) = some 2) := ⟨(hb_w1 4 (by decide +kernel)), by decide +kernel⟩
theorem ci_mX5_sameKinds : Cond.instanceMethod (ab_my mX5_sameKinds) ∈ hb_TB := (hb_w5 211 (by decide +kernel))
theorem cs_mX5_sameKinds : Cond.selects (ab_my mX5_sameKinds).cls (ab_my mX5_sameKinds) (ab_my mX5_sameKinds) ∈ hb_TB := (hb_w5 212 (by decide +kernel))
theorem ca_mX5_sameEquals : Cond.initialized (ab_my mX5_sameEquals).cls ∈ hb_TB ∧ ((ab_my mX5_sameEquals).cls ≠ "java/lang/invoke/MethodHandle" ∧ (ab_my mX5_sameEquals).cls ≠ "java/lang/invoke/VarHandle" ∧ (parseMethodDescriptor (ab_my mX5_sameEquals).desc).map (fun d => d.parameters.length) = some 2) := ⟨(hb_w1 4 (by decide +kernel)), by decide +kernel⟩
theorem ci_mX5_sameEquals : Cond.instanceMethod (ab_my mX5_sameEquals) ∈ hb_TB := (hb_w5 216 (by decide +kernel))
theorem cs_mX5_sameEquals : Cond.selects (ab_my mX5_sameEquals).cls (ab_my mX5_sameEquals) (ab_my mX5_sameEquals) ∈ hb_TB := (hb_w0 47 (by decide +kernel))
theorem ca_mX9_init : Cond.initialized (ab_my mX9_init).cls ∈ hb_TB ∧ ((ab_my mX9_init).cls ≠ "java/lang/invoke/MethodHandle" ∧ (ab_my mX9_init).cls ≠ "java/lang/invoke/VarHandle" ∧ (parseMethodDescriptor (ab_my mX9_init).desc).map (fun d => d.parameters.length) = some 1) := ⟨(hb_w1 15 (by decide +kernel)), by decide +kernel⟩
theorem ci_mX9_init : Cond.instanceMethod (ab_my mX9_init) ∈ hb_TB := (hb_w3 61 (by decide +kernel))
theorem ca_mX6_whoAsksMore : Cond.initialized (ab_my mX6_whoAsksMore).cls ∈ hb_TB ∧ ((ab_my mX6_whoAsksMore).cls ≠ "java/lang/invoke/MethodHandle" ∧ (ab_my mX6_whoAsksMore).cls ≠ "java/lang/invoke/VarHandle" ∧ (parseMethodDescriptor (ab_my mX6_whoAsksMore).desc).map (fun d => d.parameters.length) = some 3) := ⟨(hb_w1 14 (by decide +kernel)), by decide +kernel⟩
theorem ci_mX6_whoAsksMore : Cond.instanceMethod (ab_my mX6_whoAsksMore) ∈ hb_TB := (hb_w6 181 (by decide +kernel))
theorem cs_mX6_whoAsksMore : Cond.selects (ab_my mX6_whoAsksMore).cls (ab_my mX6_whoAsksMore) (ab_my mX6_whoAsksMore) ∈ hb_TB := (hb_w0 51 (by decide +kernel))
theorem ca_mX2_spotInRow : Cond.initialized (ab_my mX2_spotInRow).cls ∈ hb_TB ∧ ((ab_my mX2_spotInRow).cls ≠ "java/lang/invoke/MethodHandle" ∧ (ab_my mX2_spotInRow).cls ≠ "java/lang/invoke/VarHandle" ∧ (parseMethodDescriptor (ab_my mX2_spotInRow).desc).map (fun d => d.parameters.length) = some 3) := ⟨(hb_w1 3 (by decide +kernel)), by decide +kernel⟩
theorem ci_mX2_spotInRow : Cond.instanceMethod (ab_my mX2_spotInRow) ∈ hb_TB := (hb_w6 234 (by decide +kernel))
theorem cs_mX2_spotInRow : Cond.selects (ab_my mX2_spotInRow).cls (ab_my mX2_spotInRow) (ab_my mX2_spotInRow) ∈ hb_TB := (hb_w6 235 (by decide +kernel))
theorem ca_mJ6_compare_7cf53 : Cond.initialized (ab_my mJ6_compare_7cf53).cls ∈ hb_TB ∧ ((ab_my mJ6_compare_7cf53).cls ≠ "java/lang/invoke/MethodHandle" ∧ (ab_my mJ6_compare_7cf53).cls ≠ "java/lang/invoke/VarHandle" ∧ (parseMethodDescriptor (ab_my mJ6_compare_7cf53).desc).map (fun d => d.parameters.length) = some 2) := ⟨(hb_w1 11 (by decide +kernel)), by decide +kernel⟩
theorem ct_mJ6_compare_7cf53 : Cond.static (ab_my mJ6_compare_7cf53) ∈ hb_TB := (hb_w6 238 (by decide +kernel))
theorem ca_mX5_asked : Cond.initialized (ab_my mX5_asked).cls ∈ hb_TB ∧ ((ab_my mX5_asked).cls ≠ "java/lang/invoke/MethodHandle" ∧ (ab_my mX5_asked).cls ≠ "java/lang/invoke/VarHandle" ∧ (parseMethodDescriptor (ab_my mX5_asked).desc).map (fun d => d.parameters.length) = some 1) := ⟨(hb_w1 4 (by decide +kernel)), by decide +kernel⟩
theorem ci_mX5_asked : Cond.instanceMethod (ab_my mX5_asked) ∈ hb_TB := (hb_w6 184 (by decide +kernel))
theorem cs_mX5_asked : Cond.selects (ab_my mX5_asked).cls (ab_my mX5_asked) (ab_my mX5_asked) ∈ hb_TB := (hb_w6 185 (by decide +kernel))
theorem ca_mX6_makeRoomForAll : Cond.initialized (ab_my mX6_makeRoomForAll).cls ∈ hb_TB ∧ ((ab_my mX6_makeRoomForAll).cls ≠ "java/lang/invoke/MethodHandle" ∧ (ab_my mX6_makeRoomForAll).cls ≠ "java/lang/invoke/VarHandle" ∧ (parseMethodDescriptor (ab_my mX6_makeRoomForAll).desc).map (fun d => d.parameters.length) = some 0) := ⟨(hb_w1 14 (by decide +kernel)), by decide +kernel⟩
theorem ci_mX6_makeRoomForAll : Cond.instanceMethod (ab_my mX6_makeRoomForAll) ∈ hb_TB := (hb_w6 189 (by decide +kernel))
theorem cs_mX6_makeRoomForAll : Cond.selects (ab_my mX6_makeRoomForAll).cls (ab_my mX6_makeRoomForAll) (ab_my mX6_makeRoomForAll) ∈ hb_TB := (hb_w0 52 (by decide +kernel))
theorem ca_mX6_isTests : Cond.initialized (ab_my mX6_isTests).cls ∈ hb_TB ∧ ((ab_my mX6_isTests).cls ≠ "java/lang/invoke/MethodHandle" ∧ (ab_my mX6_isTests).cls ≠ "java/lang/invoke/VarHandle" ∧ (parseMethodDescriptor (ab_my mX6_isTests).desc).map (fun d => d.parameters.length) = some 2) := ⟨(hb_w1 14 (by decide +kernel)), by decide +kernel⟩
theorem ci_mX6_isTests : Cond.instanceMethod (ab_my mX6_isTests) ∈ hb_TB := (hb_w6 193 (by decide +kernel))
theorem cs_mX6_isTests : Cond.selects (ab_my mX6_isTests).cls (ab_my mX6_isTests) (ab_my mX6_isTests) ∈ hb_TB := (hb_w0 53 (by decide +kernel))
theorem ca_mX9_empty : Cond.initialized (ab_my mX9_empty).cls ∈ hb_TB ∧ ((ab_my mX9_empty).cls ≠ "java/lang/invoke/MethodHandle" ∧ (ab_my mX9_empty).cls ≠ "java/lang/invoke/VarHandle" ∧ (parseMethodDescriptor (ab_my mX9_empty).desc).map (fun d => d.parameters.length) = some 0) := ⟨(hb_w1 15 (by decide +kernel)), by decide +kernel⟩
theorem ci_mX9_empty : Cond.instanceMethod (ab_my mX9_empty) ∈ hb_TB := (hb_w6 197 (by decide +kernel))
theorem cs_mX9_empty : Cond.selects (ab_my mX9_empty).cls (ab_my mX9_empty) (ab_my mX9_empty) ∈ hb_TB := (hb_w6 198 (by decide +kernel))
theorem ca_mX9_cutBy : Cond.initialized (ab_my mX9_cutBy).cls ∈ hb_TB ∧ ((ab_my mX9_cutBy).cls ≠ "java/lang/invoke/MethodHandle" ∧ (ab_my mX9_cutBy).cls ≠ "java/lang/invoke/VarHandle" ∧ (parseMethodDescriptor (ab_my mX9_cutBy).desc).map (fun d => d.parameters.length) = some 2) := ⟨(hb_w1 15 (by decide +kernel)), by decide +kernel⟩
theorem ci_mX9_cutBy : Cond.instanceMethod (ab_my mX9_cutBy) ∈ hb_TB := (hb_w6 201 (by decide +kernel))
theorem cs_mX9_cutBy : Cond.selects (ab_my mX9_cutBy).cls (ab_my mX9_cutBy) (ab_my mX9_cutBy) ∈ hb_TB := (hb_w6 202 (by decide +kernel))
theorem ca_mX9_begin : Cond.initialized (ab_my mX9_begin).cls ∈ hb_TB ∧ ((ab_my mX9_begin).cls ≠ "java/lang/invoke/MethodHandle" ∧ (ab_my mX9_begin).cls ≠ "java/lang/invoke/VarHandle" ∧ (parseMethodDescriptor (ab_my mX9_begin).desc).map (fun d => d.parameters.length) = some 0) := ⟨(hb_w1 15 (by decide +kernel)), by decide +kernel⟩
theorem ci_mX9_begin : Cond.instanceMethod (ab_my mX9_begin) ∈ hb_TB := (hb_w6 211 (by decide +kernel))
theorem cs_mX9_begin : Cond.selects (ab_my mX9_begin).cls (ab_my mX9_begin) (ab_my mX9_begin) ∈ hb_TB := (hb_w6 212 (by decide +kernel))
theorem ca_mX9_toNextCell : Cond.initialized (ab_my mX9_toNextCell).cls ∈ hb_TB ∧ ((ab_my mX9_toNextCell).cls ≠ "java/lang/invoke/MethodHandle" ∧ (ab_my mX9_toNextCell).cls ≠ "java/lang/invoke/VarHandle" ∧ (parseMethodDescriptor (ab_my mX9_toNextCell).desc).map (fun d => d.parameters.length) = some 0) := ⟨(hb_w1 15 (by decide +kernel)), by decide +kernel⟩
theorem ci_mX9_toNextCell : Cond.instanceMethod (ab_my mX9_toNextCell) ∈ hb_TB := (hb_w6 216 (by decide +kernel))
theorem cs_mX9_toNextCell : Cond.selects (ab_my mX9_toNextCell).cls (ab_my mX9_toNextCell) (ab_my mX9_toNextCell) ∈ hb_TB := (hb_w6 217 (by decide +kernel))
theorem ca_mX9_isTakenBy : Cond.initialized (ab_my mX9_isTakenBy).cls ∈ hb_TB ∧ ((ab_my mX9_isTakenBy).cls ≠ "java/lang/invoke/MethodHandle" ∧ (ab_my mX9_isTakenBy).cls ≠ "java/lang/invoke/VarHandle" ∧ (parseMethodDescriptor (ab_my mX9_isTakenBy).desc).map (fun d => d.parameters.length) = some 2) := ⟨(hb_w1 15 (by decide +kernel)), by decide +kernel⟩
theorem ci_mX9_isTakenBy : Cond.instanceMethod (ab_my mX9_isTakenBy) ∈ hb_TB := (hb_w6 225 (by decide +kernel))
theorem cs_mX9_isTakenBy : Cond.selects (ab_my mX9_isTakenBy).cls (ab_my mX9_isTakenBy) (ab_my mX9_isTakenBy) ∈ hb_TB := (hb_w6 226 (by decide +kernel))
theorem ca_mX8_init : Cond.initialized (ab_my mX8_init).cls ∈ hb_TB ∧ ((ab_my mX8_init).cls ≠ "java/lang/invoke/MethodHandle" ∧ (ab_my mX8_init).cls ≠ "java/lang/invoke/VarHandle" ∧ (parseMethodDescriptor (ab_my mX8_init).desc).map (fun d => d.parameters.length) = some 0) := ⟨(hb_w1 6 (by decide +kernel)), by decide +kernel⟩
theorem ci_mX8_init : Cond.instanceMethod (ab_my mX8_init) ∈ hb_TB := (hb_w2 227 (by decide +kernel))
theorem ca_mX8_cut : Cond.initialized (ab_my mX8_cut).cls ∈ hb_TB ∧ ((ab_my mX8_cut).cls ≠ "java/lang/invoke/MethodHandle" ∧ (ab_my mX8_cut).cls ≠ "java/lang/invoke/VarHandle" ∧ (parseMethodDescriptor (ab_my mX8_cut).desc).map (fun d => d.parameters.length) = some 2) := ⟨(hb_w1 6 (by decide +kernel)), by decide +kernel⟩
theorem ci_mX8_cut : Cond.instanceMethod (ab_my mX8_cut) ∈ hb_TB := (hb_w4 154 (by decide +kernel))
theorem cs_mX8_cut : Cond.selects (ab_my mX8_cut).cls (ab_my mX8_cut) (ab_my mX8_cut) ∈ hb_TB := (hb_w4 155 (by decide +kernel))
theorem ca_mX7_begin : Cond.initialized (ab_my mX7_begin).cls ∈ hb_TB ∧ ((ab_my mX7_begin).cls ≠ "java/lang/invoke/MethodHandle" ∧ (ab_my mX7_begin).cls ≠ "java/lang/invoke/VarHandle" ∧ (parseMethodDescriptor (ab_my mX7_begin).desc).map (fun d => d.parameters.length) = some 0) := ⟨(hb_w1 13 (by decide +kernel)), by decide +kernel⟩
theorem ci_mX7_begin : Cond.instanceMethod (ab_my mX7_begin) ∈ hb_TB := (hb_w5 13 (by decide +kernel))
theorem cs_mX7_begin : Cond.selects (ab_my mX7_begin).cls (ab_my mX7_begin) (ab_my mX7_begin) ∈ hb_TB := (hb_w0 14 (by decide +kernel))
theorem ca_mX11_keep : Cond.initialized (ab_my mX11_keep).cls ∈ hb_TB ∧ ((ab_my mX11_keep).cls ≠ "java/lang/invoke/MethodHandle" ∧ (ab_my mX11_keep).cls ≠ "java/lang/invoke/VarHandle" ∧ (parseMethodDescriptor (ab_my mX11_keep).desc).map (fun d => d.parameters.length) = some 0) := ⟨(hb_w1 2 (by decide +kernel)), by decide +kernel⟩
theorem ci_mX11_keep : Cond.instanceMethod (ab_my mX11_keep) ∈ hb_TB := (hb_w5 16 (by decide +kernel))
theorem cs_mX11_keep : Cond.selects (ab_my mX11_keep).cls (ab_my mX11_keep) (ab_my mX11_keep) ∈ hb_TB := (hb_w5 17 (by decide +kernel))
theorem ca_mX7_sign : Cond.initialized (ab_my mX7_sign).cls ∈ hb_TB ∧ ((ab_my mX7_sign).cls ≠ "java/lang/invoke/MethodHandle" ∧ (ab_my mX7_sign).cls ≠ "java/lang/invoke/VarHandle" ∧ (parseMethodDescriptor (ab_my mX7_sign).desc).map (fun d => d.parameters.length) = some 0) := ⟨(hb_w1 13 (by decide +kernel)), by decide +kernel⟩
theorem ci_mX7_sign : Cond.instanceMethod (ab_my mX7_sign) ∈ hb_TB := (hb_w5 24 (by decide +kernel))
theorem cs_mX7_sign : Cond.selects (ab_my mX7_sign).cls (ab_my mX7_sign) (ab_my mX7_sign) ∈ hb_TB := (hb_w0 15 (by decide +kernel))
theorem ca_mX7_readKind : Cond.initialized (ab_my mX7_readKind).cls ∈ hb_TB ∧ ((ab_my mX7_readKind).cls ≠ "java/lang/invoke/MethodHandle" ∧ (ab_my mX7_readKind).cls ≠ "java/lang/invoke/VarHandle" ∧ (parseMethodDescriptor (ab_my mX7_readKind).desc).map (fun d => d.parameters.length) = some 0) := ⟨(hb_w1 13 (by decide +kernel)), by decide +kernel⟩
theorem ci_mX7_readKind : Cond.instanceMethod (ab_my mX7_readKind) ∈ hb_TB := (hb_w5 28 (by decide +kernel))
theorem cs_mX7_readKind : Cond.selects (ab_my mX7_readKind).cls (ab_my mX7_readKind) (ab_my mX7_readKind) ∈ hb_TB := (hb_w0 16 (by decide +kernel))
theorem ca_mX7_readCall : Cond.initialized (ab_my mX7_readCall).cls ∈ hb_TB ∧ ((ab_my mX7_readCall).cls ≠ "java/lang/invoke/MethodHandle" ∧ (ab_my mX7_readCall).cls ≠ "java/lang/invoke/VarHandle" ∧ (parseMethodDescriptor (ab_my mX7_readCall).desc).map (fun d => d.parameters.length) = some 0) := ⟨(hb_w1 13 (by decide +kernel)), by decide +kernel⟩
theorem ci_mX7_readCall : Cond.instanceMethod (ab_my mX7_readCall) ∈ hb_TB := (hb_w5 69 (by decide +kernel))
theorem cs_mX7_readCall : Cond.selects (ab_my mX7_readCall).cls (ab_my mX7_readCall) (ab_my mX7_readCall) ∈ hb_TB := (hb_w0 22 (by decide +kernel))
theorem ca_mX7_readLayer : Cond.initialized (ab_my mX7_readLayer).cls ∈ hb_TB ∧ ((ab_my mX7_readLayer).cls ≠ "java/lang/invoke/MethodHandle" ∧ (ab_my mX7_readLayer).cls ≠ "java/lang/invoke/VarHandle" ∧ (parseMethodDescriptor (ab_my mX7_readLayer).desc).map (fun d => d.parameters.length) = some 0) := ⟨(hb_w1 13 (by decide +kernel)), by decide +kernel⟩
theorem ci_mX7_readLayer : Cond.instanceMethod (ab_my mX7_readLayer) ∈ hb_TB := (hb_w5 74 (by decide +kernel))
theorem cs_mX7_readLayer : Cond.selects (ab_my mX7_readLayer).cls (ab_my mX7_readLayer) (ab_my mX7_readLayer) ∈ hb_TB := (hb_w0 23 (by decide +kernel))
theorem ca_mX7_readMethod : Cond.initialized (ab_my mX7_readMethod).cls ∈ hb_TB ∧ ((ab_my mX7_readMethod).cls ≠ "java/lang/invoke/MethodHandle" ∧ (ab_my mX7_readMethod).cls ≠ "java/lang/invoke/VarHandle" ∧ (parseMethodDescriptor (ab_my mX7_readMethod).desc).map (fun d => d.parameters.length) = some 0) := ⟨(hb_w1 13 (by decide +kernel)), by decide +kernel⟩
theorem ci_mX7_readMethod : Cond.instanceMethod (ab_my mX7_readMethod) ∈ hb_TB := (hb_w5 78 (by decide +kernel))
theorem cs_mX7_readMethod : Cond.selects (ab_my mX7_readMethod).cls (ab_my mX7_readMethod) (ab_my mX7_readMethod) ∈ hb_TB := (hb_w0 24 (by decide +kernel))
theorem ca_mX7_take : Cond.initialized (ab_my mX7_take).cls ∈ hb_TB ∧ ((ab_my mX7_take).cls ≠ "java/lang/invoke/MethodHandle" ∧ (ab_my mX7_take).cls ≠ "java/lang/invoke/VarHandle" ∧ (parseMethodDescriptor (ab_my mX7_take).desc).map (fun d => d.parameters.length) = some 1) := ⟨(hb_w1 13 (by decide +kernel)), by decide +kernel⟩
theorem ci_mX7_take : Cond.instanceMethod (ab_my mX7_take) ∈ hb_TB := (hb_w5 32 (by decide +kernel))
theorem cs_mX7_take : Cond.selects (ab_my mX7_take).cls (ab_my mX7_take) (ab_my mX7_take) ∈ hb_TB := (hb_w0 17 (by decide +kernel))
theorem ca_mX7_isClean : Cond.initialized (ab_my mX7_isClean).cls ∈ hb_TB ∧ ((ab_my mX7_isClean).cls ≠ "java/lang/invoke/MethodHandle" ∧ (ab_my mX7_isClean).cls ≠ "java/lang/invoke/VarHandle" ∧ (parseMethodDescriptor (ab_my mX7_isClean).desc).map (fun d => d.parameters.length) = some 0) := ⟨(hb_w1 13 (by decide +kernel)), by decide +kernel⟩
theorem ci_mX7_isClean : Cond.instanceMethod (ab_my mX7_isClean) ∈ hb_TB := (hb_w5 63 (by decide +kernel))
theorem cs_mX7_isClean : Cond.selects (ab_my mX7_isClean).cls (ab_my mX7_isClean) (ab_my mX7_isClean) ∈ hb_TB := (hb_w0 21 (by decide +kernel))
theorem ca_mX11_takeStock : Cond.initialized (ab_my mX11_takeStock).cls ∈ hb_TB ∧ ((ab_my mX11_takeStock).cls ≠ "java/lang/invoke/MethodHandle" ∧ (ab_my mX11_takeStock).cls ≠ "java/lang/invoke/VarHandle" ∧ (parseMethodDescriptor (ab_my mX11_takeStock).desc).map (fun d => d.parameters.length) = some 0) := ⟨(hb_w1 2 (by decide +kernel)), by decide +kernel⟩
theorem ci_mX11_takeStock : Cond.instanceMethod (ab_my mX11_takeStock) ∈ hb_TB := (hb_w2 101 (by decide +kernel))
theorem cs_mX11_takeStock : Cond.selects (ab_my mX11_takeStock).cls (ab_my mX11_takeStock) (ab_my mX11_takeStock) ∈ hb_TB := (hb_w2 102 (by decide +kernel))
theorem ca_mX11_goBack : Cond.initialized (ab_my mX11_goBack).cls ∈ hb_TB ∧ ((ab_my mX11_goBack).cls ≠ "java/lang/invoke/MethodHandle" ∧ (ab_my mX11_goBack).cls ≠ "java/lang/invoke/VarHandle" ∧ (parseMethodDescriptor (ab_my mX11_goBack).desc).map (fun d => d.parameters.length) = some 0) := ⟨(hb_w1 2 (by decide +kernel)), by decide +kernel⟩
theorem ci_mX11_goBack : Cond.instanceMethod (ab_my mX11_goBack) ∈ hb_TB := (hb_w5 220 (by decide +kernel))
theorem cs_mX11_goBack : Cond.selects (ab_my mX11_goBack).cls (ab_my mX11_goBack) (ab_my mX11_goBack) ∈ hb_TB := (hb_w5 221 (by decide +kernel))
theorem ca_mX7_verdict : Cond.initialized (ab_my mX7_verdict).cls ∈ hb_TB ∧ ((ab_my mX7_verdict).cls ≠ "java/lang/invoke/MethodHandle" ∧ (ab_my mX7_verdict).cls ≠ "java/lang/invoke/VarHandle" ∧ (parseMethodDescriptor (ab_my mX7_verdict).desc).map (fun d => d.parameters.length) = some 0) := ⟨(hb_w1 13 (by decide +kernel)), by decide +kernel⟩
theorem ci_mX7_verdict : Cond.instanceMethod (ab_my mX7_verdict) ∈ hb_TB := (hb_w5 225 (by decide +kernel))
theorem cs_mX7_verdict : Cond.selects (ab_my mX7_verdict).cls (ab_my mX7_verdict) (ab_my mX7_verdict) ∈ hb_TB := (hb_w0 48 (by decide +kernel))
theorem ca_mX7_readBody : Cond.initialized (ab_my mX7_readBody).cls ∈ hb_TB ∧ ((ab_my mX7_readBody).cls ≠ "java/lang/invoke/MethodHandle" ∧ (ab_my mX7_readBody).cls ≠ "java/lang/invoke/VarHandle" ∧ (parseMethodDescriptor (ab_my mX7_readBody).desc).map (fun d => d.parameters.length) = some 1) := ⟨(hb_w1 13 (by decide +kernel)), by decide +kernel⟩
theorem ci_mX7_readBody : Cond.instanceMethod (ab_my mX7_readBody) ∈ hb_TB := (hb_w5 123 (by decide +kernel))
theorem cs_mX7_readBody : Cond.selects (ab_my mX7_readBody).cls (ab_my mX7_readBody) (ab_my mX7_readBody) ∈ hb_TB := (hb_w0 32 (by decide +kernel))
theorem ca_mX11_isTold : Cond.initialized (ab_my mX11_isTold).cls ∈ hb_TB ∧ ((ab_my mX11_isTold).cls ≠ "java/lang/invoke/MethodHandle" ∧ (ab_my mX11_isTold).cls ≠ "java/lang/invoke/VarHandle" ∧ (parseMethodDescriptor (ab_my mX11_isTold).desc).map (fun d => d.parameters.length) = some 2) := ⟨(hb_w1 2 (by decide +kernel)), by decide +kernel⟩
theorem ci_mX11_isTold : Cond.instanceMethod (ab_my mX11_isTold) ∈ hb_TB := (hb_w5 39 (by decide +kernel))
theorem cs_mX11_isTold : Cond.selects (ab_my mX11_isTold).cls (ab_my mX11_isTold) (ab_my mX11_isTold) ∈ hb_TB := (hb_w5 40 (by decide +kernel))
theorem ca_mX7_breakRule : Cond.initialized (ab_my mX7_breakRule).cls ∈ hb_TB ∧ ((ab_my mX7_breakRule).cls ≠ "java/lang/invoke/MethodHandle" ∧ (ab_my mX7_breakRule).cls ≠ "java/lang/invoke/VarHandle" ∧ (parseMethodDescriptor (ab_my mX7_breakRule).desc).map (fun d => d.parameters.length) = some 2) := ⟨(hb_w1 13 (by decide +kernel)), by decide +kernel⟩
theorem ci_mX7_breakRule : Cond.instanceMethod (ab_my mX7_breakRule) ∈ hb_TB := (hb_w5 48 (by decide +kernel))
theorem cs_mX7_breakRule : Cond.selects (ab_my mX7_breakRule).cls (ab_my mX7_breakRule) (ab_my mX7_breakRule) ∈ hb_TB := (hb_w0 19 (by decide +kernel))
theorem ca_mX11_isFull : Cond.initialized (ab_my mX11_isFull).cls ∈ hb_TB ∧ ((ab_my mX11_isFull).cls ≠ "java/lang/invoke/MethodHandle" ∧ (ab_my mX11_isFull).cls ≠ "java/lang/invoke/VarHandle" ∧ (parseMethodDescriptor (ab_my mX11_isFull).desc).map (fun d => d.parameters.length) = some 1) := ⟨(hb_w1 2 (by decide +kernel)), by decide +kernel⟩
theorem ci_mX11_isFull : Cond.instanceMethod (ab_my mX11_isFull) ∈ hb_TB := (hb_w2 38 (by decide +kernel))
theorem cs_mX11_isFull : Cond.selects (ab_my mX11_isFull).cls (ab_my mX11_isFull) (ab_my mX11_isFull) ∈ hb_TB := (hb_w2 39 (by decide +kernel))
theorem ca_mX11_find : Cond.initialized (ab_my mX11_find).cls ∈ hb_TB ∧ ((ab_my mX11_find).cls ≠ "java/lang/invoke/MethodHandle" ∧ (ab_my mX11_find).cls ≠ "java/lang/invoke/VarHandle" ∧ (parseMethodDescriptor (ab_my mX11_find).desc).map (fun d => d.parameters.length) = some 3) := ⟨(hb_w1 2 (by decide +kernel)), by decide +kernel⟩
theorem ci_mX11_find : Cond.instanceMethod (ab_my mX11_find) ∈ hb_TB := (hb_w5 43 (by decide +kernel))
theorem cs_mX11_find : Cond.selects (ab_my mX11_find).cls (ab_my mX11_find) (ab_my mX11_find) ∈ hb_TB := (hb_w5 44 (by decide +kernel))
theorem ca_mX7_takeNewName : Cond.initialized (ab_my mX7_takeNewName).cls ∈ hb_TB ∧ ((ab_my mX7_takeNewName).cls ≠ "java/lang/invoke/MethodHandle" ∧ (ab_my mX7_takeNewName).cls ≠ "java/lang/invoke/VarHandle" ∧ (parseMethodDescriptor (ab_my mX7_takeNewName).desc).map (fun d => d.parameters.length) = some 1) := ⟨(hb_w1 13 (by decide +kernel)), by decide +kernel⟩
theorem ci_mX7_takeNewName : Cond.instanceMethod (ab_my mX7_takeNewName) ∈ hb_TB := (hb_w5 36 (by decide +kernel))
theorem cs_mX7_takeNewName : Cond.selects (ab_my mX7_takeNewName).cls (ab_my mX7_takeNewName) (ab_my mX7_takeNewName) ∈ hb_TB := (hb_w0 18 (by decide +kernel))
theorem ca_mX7_takeKnownName : Cond.initialized (ab_my mX7_takeKnownName).cls ∈ hb_TB ∧ ((ab_my mX7_takeKnownName).cls ≠ "java/lang/invoke/MethodHandle" ∧ (ab_my mX7_takeKnownName).cls ≠ "java/lang/invoke/VarHandle" ∧ (parseMethodDescriptor (ab_my mX7_takeKnownName).desc).map (fun d => d.parameters.length) = some 1) := ⟨(hb_w1 13 (by decide +kernel)), by decide +kernel⟩
theorem ci_mX7_takeKnownName : Cond.instanceMethod (ab_my mX7_takeKnownName) ∈ hb_TB := (hb_w5 53 (by decide +kernel))
theorem cs_mX7_takeKnownName : Cond.selects (ab_my mX7_takeKnownName).cls (ab_my mX7_takeKnownName) (ab_my mX7_takeKnownName) ∈ hb_TB := (hb_w0 20 (by decide +kernel))
theorem ca_mX2_isParent : Cond.initialized (ab_my mX2_isParent).cls ∈ hb_TB ∧ ((ab_my mX2_isParent).cls ≠ "java/lang/invoke/MethodHandle" ∧ (ab_my mX2_isParent).cls ≠ "java/lang/invoke/VarHandle" ∧ (parseMethodDescriptor (ab_my mX2_isParent).desc).map (fun d => d.parameters.length) = some 1) := ⟨(hb_w1 3 (by decide +kernel)), by decide +kernel⟩
theorem ci_mX2_isParent : Cond.instanceMethod (ab_my mX2_isParent) ∈ hb_TB := (hb_w5 57 (by decide +kernel))
theorem cs_mX2_isParent : Cond.selects (ab_my mX2_isParent).cls (ab_my mX2_isParent) (ab_my mX2_isParent) ∈ hb_TB := (hb_w5 58 (by decide +kernel))
theorem ca_mX2_addParent : Cond.initialized (ab_my mX2_addParent).cls ∈ hb_TB ∧ ((ab_my mX2_addParent).cls ≠ "java/lang/invoke/MethodHandle" ∧ (ab_my mX2_addParent).cls ≠ "java/lang/invoke/VarHandle" ∧ (parseMethodDescriptor (ab_my mX2_addParent).desc).map (fun d => d.parameters.length) = some 1) := ⟨(hb_w1 3 (by decide +kernel)), by decide +kernel⟩
theorem ci_mX2_addParent : Cond.instanceMethod (ab_my mX2_addParent) ∈ hb_TB := (hb_w2 97 (by decide +kernel))
theorem cs_mX2_addParent : Cond.selects (ab_my mX2_addParent).cls (ab_my mX2_addParent) (ab_my mX2_addParent) ∈ hb_TB := (hb_w2 98 (by decide +kernel))
theorem ca_mX2_make : Cond.initialized (ab_my mX2_make).cls ∈ hb_TB ∧ ((ab_my mX2_make).cls ≠ "java/lang/invoke/MethodHandle" ∧ (ab_my mX2_make).cls ≠ "java/lang/invoke/VarHandle" ∧ (parseMethodDescriptor (ab_my mX2_make).desc).map (fun d => d.parameters.length) = some 2) := ⟨(hb_w1 3 (by decide +kernel)), by decide +kernel⟩
theorem ci_mX2_make : Cond.instanceMethod (ab_my mX2_make) ∈ hb_TB := (hb_w2 48 (by decide +kernel))
theorem cs_mX2_make : Cond.selects (ab_my mX2_make).cls (ab_my mX2_make) (ab_my mX2_make) ∈ hb_TB := (hb_w2 49 (by decide +kernel))
theorem ca_mX11_addName : Cond.initialized (ab_my mX11_addName).cls ∈ hb_TB ∧ ((ab_my mX11_addName).cls ≠ "java/lang/invoke/MethodHandle" ∧ (ab_my mX11_addName).cls ≠ "java/lang/invoke/VarHandle" ∧ (parseMethodDescriptor (ab_my mX11_addName).desc).map (fun d => d.parameters.length) = some 3) := ⟨(hb_w1 2 (by decide +kernel)), by decide +kernel⟩
theorem ci_mX11_addName : Cond.instanceMethod (ab_my mX11_addName) ∈ hb_TB := (hb_w2 34 (by decide +kernel))
theorem cs_mX11_addName : Cond.selects (ab_my mX11_addName).cls (ab_my mX11_addName) (ab_my mX11_addName) ∈ hb_TB := (hb_w2 35 (by decide +kernel))
theorem ca_mX5_open : Cond.initialized (ab_my mX5_open).cls ∈ hb_TB ∧ ((ab_my mX5_open).cls ≠ "java/lang/invoke/MethodHandle" ∧ (ab_my mX5_open).cls ≠ "java/lang/invoke/VarHandle" ∧ (parseMethodDescriptor (ab_my mX5_open).desc).map (fun d => d.parameters.length) = some 2) := ⟨(hb_w1 4 (by decide +kernel)), by decide +kernel⟩
theorem ci_mX5_open : Cond.instanceMethod (ab_my mX5_open) ∈ hb_TB := (hb_w5 81 (by decide +kernel))
theorem cs_mX5_open : Cond.selects (ab_my mX5_open).cls (ab_my mX5_open) (ab_my mX5_open) ∈ hb_TB := (hb_w5 82 (by decide +kernel))
theorem ca_mX7_readSpecs : Cond.initialized (ab_my mX7_readSpecs).cls ∈ hb_TB ∧ ((ab_my mX7_readSpecs).cls ≠ "java/lang/invoke/MethodHandle" ∧ (ab_my mX7_readSpecs).cls ≠ "java/lang/invoke/VarHandle" ∧ (parseMethodDescriptor (ab_my mX7_readSpecs).desc).map (fun d => d.parameters.length) = some 1) := ⟨(hb_w1 13 (by decide +kernel)), by decide +kernel⟩
theorem ci_mX7_readSpecs : Cond.instanceMethod (ab_my mX7_readSpecs) ∈ hb_TB := (hb_w5 87 (by decide +kernel))
theorem cs_mX7_readSpecs : Cond.selects (ab_my mX7_readSpecs).cls (ab_my mX7_readSpecs) (ab_my mX7_readSpecs) ∈ hb_TB := (hb_w0 25 (by decide +kernel))
theorem ca_mX7_readTest : Cond.initialized (ab_my mX7_readTest).cls ∈ hb_TB ∧ ((ab_my mX7_readTest).cls ≠ "java/lang/invoke/MethodHandle" ∧ (ab_my mX7_readTest).cls ≠ "java/lang/invoke/VarHandle" ∧ (parseMethodDescriptor (ab_my mX7_readTest).desc).map (fun d => d.parameters.length) = some 2) := ⟨(hb_w1 13 (by decide +kernel)), by decide +kernel⟩
theorem ci_mX7_readTest : Cond.instanceMethod (ab_my mX7_readTest) ∈ hb_TB := (hb_w5 99 (by decide +kernel))
theorem cs_mX7_readTest : Cond.selects (ab_my mX7_readTest).cls (ab_my mX7_readTest) (ab_my mX7_readTest) ∈ hb_TB := (hb_w0 28 (by decide +kernel))
theorem ca_mX5_hasTwin : Cond.initialized (ab_my mX5_hasTwin).cls ∈ hb_TB ∧ ((ab_my mX5_hasTwin).cls ≠ "java/lang/invoke/MethodHandle" ∧ (ab_my mX5_hasTwin).cls ≠ "java/lang/invoke/VarHandle" ∧ (parseMethodDescriptor (ab_my mX5_hasTwin).desc).map (fun d => d.parameters.length) = some 1) := ⟨(hb_w1 4 (by decide +kernel)), by decide +kernel⟩
theorem ci_mX5_hasTwin : Cond.instanceMethod (ab_my mX5_hasTwin) ∈ hb_TB := (hb_w5 207 (by decide +kernel))
theorem cs_mX5_hasTwin : Cond.selects (ab_my mX5_hasTwin).cls (ab_my mX5_hasTwin) (ab_my mX5_hasTwin) ∈ hb_TB := (hb_w5 208 (by decide +kernel))
theorem ca_mX7_readSpec : Cond.initialized (ab_my mX7_readSpec).cls ∈ hb_TB ∧ ((ab_my mX7_readSpec).cls ≠ "java/lang/invoke/MethodHandle" ∧ (ab_my mX7_readSpec).cls ≠ "java/lang/invoke/VarHandle" ∧ (parseMethodDescriptor (ab_my mX7_readSpec).desc).map (fun d => d.parameters.length) = some 2) := ⟨(hb_w1 13 (by decide +kernel)), by decide +kernel⟩
theorem ci_mX7_readSpec : Cond.instanceMethod (ab_my mX7_readSpec) ∈ hb_TB := (hb_w5 91 (by decide +kernel))
theorem cs_mX7_readSpec : Cond.selects (ab_my mX7_readSpec).cls (ab_my mX7_readSpec) (ab_my mX7_readSpec) ∈ hb_TB := (hb_w0 26 (by decide +kernel))
theorem ca_mX7_takeNumber : Cond.initialized (ab_my mX7_takeNumber).cls ∈ hb_TB ∧ ((ab_my mX7_takeNumber).cls ≠ "java/lang/invoke/MethodHandle" ∧ (ab_my mX7_takeNumber).cls ≠ "java/lang/invoke/VarHandle" ∧ (parseMethodDescriptor (ab_my mX7_takeNumber).desc).map (fun d => d.parameters.length) = some 0) := ⟨(hb_w1 13 (by decide +kernel)), by decide +kernel⟩
theorem ci_mX7_takeNumber : Cond.instanceMethod (ab_my mX7_takeNumber) ∈ hb_TB := (hb_w5 95 (by decide +kernel))
theorem cs_mX7_takeNumber : Cond.selects (ab_my mX7_takeNumber).cls (ab_my mX7_takeNumber) (ab_my mX7_takeNumber) ∈ hb_TB := (hb_w0 27 (by decide +kernel))
theorem ca_mX7_readOneOfTest : Cond.initialized (ab_my mX7_readOneOfTest).cls ∈ hb_TB ∧ ((ab_my mX7_readOneOfTest).cls ≠ "java/lang/invoke/MethodHandle" ∧ (ab_my mX7_readOneOfTest).cls ≠ "java/lang/invoke/VarHandle" ∧ (parseMethodDescriptor (ab_my mX7_readOneOfTest).desc).map (fun d => d.parameters.length) = some 2) := ⟨(hb_w1 13 (by decide +kernel)), by decide +kernel⟩
theorem ci_mX7_readOneOfTest : Cond.instanceMethod (ab_my mX7_readOneOfTest) ∈ hb_TB := (hb_w5 104 (by decide +kernel))
theorem cs_mX7_readOneOfTest : Cond.selects (ab_my mX7_readOneOfTest).cls (ab_my mX7_readOneOfTest) (ab_my mX7_readOneOfTest) ∈ hb_TB := (hb_w0 29 (by decide +kernel))
theorem ca_mX7_readComparison : Cond.initialized (ab_my mX7_readComparison).cls ∈ hb_TB ∧ ((ab_my mX7_readComparison).cls ≠ "java/lang/invoke/MethodHandle" ∧ (ab_my mX7_readComparison).cls ≠ "java/lang/invoke/VarHandle" ∧ (parseMethodDescriptor (ab_my mX7_readComparison).desc).map (fun d => d.parameters.length) = some 1) := ⟨(hb_w1 13 (by decide +kernel)), by decide +kernel⟩
theorem ci_mX7_readComparison : Cond.instanceMethod (ab_my mX7_readComparison) ∈ hb_TB := (hb_w5 110 (by decide +kernel))
theorem cs_mX7_readComparison : Cond.selects (ab_my mX7_readComparison).cls (ab_my mX7_readComparison) (ab_my mX7_readComparison) ∈ hb_TB := (hb_w0 30 (by decide +kernel))
theorem ca_mX5_addTest : Cond.initialized (ab_my mX5_addTest).cls ∈ hb_TB ∧ ((ab_my mX5_addTest).cls ≠ "java/lang/invoke/MethodHandle" ∧ (ab_my mX5_addTest).cls ≠ "java/lang/invoke/VarHandle" ∧ (parseMethodDescriptor (ab_my mX5_addTest).desc).map (fun d => d.parameters.length) = some 5) := ⟨(hb_w1 4 (by decide +kernel)), by decide +kernel⟩
theorem ci_mX5_addTest : Cond.instanceMethod (ab_my mX5_addTest) ∈ hb_TB := (hb_w5 114 (by decide +kernel))
theorem cs_mX5_addTest : Cond.selects (ab_my mX5_addTest).cls (ab_my mX5_addTest) (ab_my mX5_addTest) ∈ hb_TB := (hb_w5 115 (by decide +kernel))
theorem ca_mX7_readTerm : Cond.initialized (ab_my mX7_readTerm).cls ∈ hb_TB ∧ ((ab_my mX7_readTerm).cls ≠ "java/lang/invoke/MethodHandle" ∧ (ab_my mX7_readTerm).cls ≠ "java/lang/invoke/VarHandle" ∧ (parseMethodDescriptor (ab_my mX7_readTerm).desc).map (fun d => d.parameters.length) = some 0) := ⟨(hb_w1 13 (by decide +kernel)), by decide +kernel⟩
theorem ci_mX7_readTerm : Cond.instanceMethod (ab_my mX7_readTerm) ∈ hb_TB := (hb_w5 119 (by decide +kernel))
theorem cs_mX7_readTerm : Cond.selects (ab_my mX7_readTerm).cls (ab_my mX7_readTerm) (ab_my mX7_readTerm) ∈ hb_TB := (hb_w0 31 (by decide +kernel))
theorem ca_mX1_open : Cond.initialized (ab_my mX1_open).cls ∈ hb_TB ∧ ((ab_my mX1_open).cls ≠ "java/lang/invoke/MethodHandle" ∧ (ab_my mX1_open).cls ≠ "java/lang/invoke/VarHandle" ∧ (parseMethodDescriptor (ab_my mX1_open).desc).map (fun d => d.parameters.length) = some 1) := ⟨(hb_w1 5 (by decide +kernel)), by decide +kernel⟩
theorem ci_mX1_open : Cond.instanceMethod (ab_my mX1_open) ∈ hb_TB := (hb_w5 126 (by decide +kernel))
theorem cs_mX1_open : Cond.selects (ab_my mX1_open).cls (ab_my mX1_open) (ab_my mX1_open) ∈ hb_TB := (hb_w5 127 (by decide +kernel))
theorem ca_mX7_readE : Cond.initialized (ab_my mX7_readE).cls ∈ hb_TB ∧ ((ab_my mX7_readE).cls ≠ "java/lang/invoke/MethodHandle" ∧ (ab_my mX7_readE).cls ≠ "java/lang/invoke/VarHandle" ∧ (parseMethodDescriptor (ab_my mX7_readE).desc).map (fun d => d.parameters.length) = some 1) := ⟨(hb_w1 13 (by decide +kernel)), by decide +kernel⟩
theorem ci_mX7_readE : Cond.instanceMethod (ab_my mX7_readE) ∈ hb_TB := (hb_w5 144 (by decide +kernel))
theorem cs_mX7_readE : Cond.selects (ab_my mX7_readE).cls (ab_my mX7_readE) (ab_my mX7_readE) ∈ hb_TB := (hb_w0 33 (by decide +kernel))
theorem ca_mX1_emit : Cond.initialized (ab_my mX1_emit).cls ∈ hb_TB ∧ ((ab_my mX1_emit).cls ≠ "java/lang/invoke/MethodHandle" ∧ (ab_my mX1_emit).cls ≠ "java/lang/invoke/VarHandle" ∧ (parseMethodDescriptor (ab_my mX1_emit).desc).map (fun d => d.parameters.length) = some 2) := ⟨(hb_w1 5 (by decide +kernel)), by decide +kernel⟩
theorem ci_mX1_emit : Cond.instanceMethod (ab_my mX1_emit) ∈ hb_TB := (hb_w5 159 (by decide +kernel))
theorem cs_mX1_emit : Cond.selects (ab_my mX1_emit).cls (ab_my mX1_emit) (ab_my mX1_emit) ∈ hb_TB := (hb_w5 160 (by decide +kernel))
theorem ca_mX7_readLet : Cond.initialized (ab_my mX7_readLet).cls ∈ hb_TB ∧ ((ab_my mX7_readLet).cls ≠ "java/lang/invoke/MethodHandle" ∧ (ab_my mX7_readLet).cls ≠ "java/lang/invoke/VarHandle" ∧ (parseMethodDescriptor (ab_my mX7_readLet).desc).map (fun d => d.parameters.length) = some 1) := ⟨(hb_w1 13 (by decide +kernel)), by decide +kernel⟩
theorem ci_mX7_readLet : Cond.instanceMethod (ab_my mX7_readLet) ∈ hb_TB := (hb_w5 148 (by decide +kernel))
theorem cs_mX7_readLet : Cond.selects (ab_my mX7_readLet).cls (ab_my mX7_readLet) (ab_my mX7_readLet) ∈ hb_TB := (hb_w0 34 (by decide +kernel))
theorem ca_mX7_readIf : Cond.initialized (ab_my mX7_readIf).cls ∈ hb_TB ∧ ((ab_my mX7_readIf).cls ≠ "java/lang/invoke/MethodHandle" ∧ (ab_my mX7_readIf).cls ≠ "java/lang/invoke/VarHandle" ∧ (parseMethodDescriptor (ab_my mX7_readIf).desc).map (fun d => d.parameters.length) = some 1) := ⟨(hb_w1 13 (by decide +kernel)), by decide +kernel⟩
theorem ci_mX7_readIf : Cond.instanceMethod (ab_my mX7_readIf) ∈ hb_TB := (hb_w5 164 (by decide +kernel))
theorem cs_mX7_readIf : Cond.selects (ab_my mX7_readIf).cls (ab_my mX7_readIf) (ab_my mX7_readIf) ∈ hb_TB := (hb_w0 37 (by decide +kernel))
theorem ca_mX7_readWith : Cond.initialized (ab_my mX7_readWith).cls ∈ hb_TB ∧ ((ab_my mX7_readWith).cls ≠ "java/lang/invoke/MethodHandle" ∧ (ab_my mX7_readWith).cls ≠ "java/lang/invoke/VarHandle" ∧ (parseMethodDescriptor (ab_my mX7_readWith).desc).map (fun d => d.parameters.length) = some 1) := ⟨(hb_w1 13 (by decide +kernel)), by decide +kernel⟩
theorem ci_mX7_readWith : Cond.instanceMethod (ab_my mX7_readWith) ∈ hb_TB := (hb_w5 172 (by decide +kernel))
theorem cs_mX7_readWith : Cond.selects (ab_my mX7_readWith).cls (ab_my mX7_readWith) (ab_my mX7_readWith) ∈ hb_TB := (hb_w0 38 (by decide +kernel))
theorem ca_mX7_readTry : Cond.initialized (ab_my mX7_readTry).cls ∈ hb_TB ∧ ((ab_my mX7_readTry).cls ≠ "java/lang/invoke/MethodHandle" ∧ (ab_my mX7_readTry).cls ≠ "java/lang/invoke/VarHandle" ∧ (parseMethodDescriptor (ab_my mX7_readTry).desc).map (fun d => d.parameters.length) = some 1) := ⟨(hb_w1 13 (by decide +kernel)), by decide +kernel⟩
theorem ci_mX7_readTry : Cond.instanceMethod (ab_my mX7_readTry) ∈ hb_TB := (hb_w5 176 (by decide +kernel))
theorem cs_mX7_readTry : Cond.selects (ab_my mX7_readTry).cls (ab_my mX7_readTry) (ab_my mX7_readTry) ∈ hb_TB := (hb_w0 39 (by decide +kernel))
theorem ca_mX7_addNode : Cond.initialized (ab_my mX7_addNode).cls ∈ hb_TB ∧ ((ab_my mX7_addNode).cls ≠ "java/lang/invoke/MethodHandle" ∧ (ab_my mX7_addNode).cls ≠ "java/lang/invoke/VarHandle" ∧ (parseMethodDescriptor (ab_my mX7_addNode).desc).map (fun d => d.parameters.length) = some 2) := ⟨(hb_w1 13 (by decide +kernel)), by decide +kernel⟩
theorem ci_mX7_addNode : Cond.instanceMethod (ab_my mX7_addNode) ∈ hb_TB := (hb_w5 152 (by decide +kernel))
theorem cs_mX7_addNode : Cond.selects (ab_my mX7_addNode).cls (ab_my mX7_addNode) (ab_my mX7_addNode) ∈ hb_TB := (hb_w0 35 (by decide +kernel))
theorem ca_mX7_readCompared : Cond.initialized (ab_my mX7_readCompared).cls ∈ hb_TB ∧ ((ab_my mX7_readCompared).cls ≠ "java/lang/invoke/MethodHandle" ∧ (ab_my mX7_readCompared).cls ≠ "java/lang/invoke/VarHandle" ∧ (parseMethodDescriptor (ab_my mX7_readCompared).desc).map (fun d => d.parameters.length) = some 1) := ⟨(hb_w1 13 (by decide +kernel)), by decide +kernel⟩
theorem ci_mX7_readCompared : Cond.instanceMethod (ab_my mX7_readCompared) ∈ hb_TB := (hb_w5 180 (by decide +kernel))
theorem cs_mX7_readCompared : Cond.selects (ab_my mX7_readCompared).cls (ab_my mX7_readCompared) (ab_my mX7_readCompared) ∈ hb_TB := (hb_w0 40 (by decide +kernel))
theorem ca_mX7_readWithVariable : Cond.initialized (ab_my mX7_readWithVariable).cls ∈ hb_TB ∧ ((ab_my mX7_readWithVariable).cls ≠ "java/lang/invoke/MethodHandle" ∧ (ab_my mX7_readWithVariable).cls ≠ "java/lang/invoke/VarHandle" ∧ (parseMethodDescriptor (ab_my mX7_readWithVariable).desc).map (fun d => d.parameters.length) = some 2) := ⟨(hb_w1 13 (by decide +kernel)), by decide +kernel⟩
theorem ci_mX7_readWithVariable : Cond.instanceMethod (ab_my mX7_readWithVariable) ∈ hb_TB := (hb_w5 156 (by decide +kernel))
theorem cs_mX7_readWithVariable : Cond.selects (ab_my mX7_readWithVariable).cls (ab_my mX7_readWithVariable) (ab_my mX7_readWithVariable) ∈ hb_TB := (hb_w0 36 (by decide +kernel))
theorem ca_mX1_aim : Cond.initialized (ab_my mX1_aim).cls ∈ hb_TB ∧ ((ab_my mX1_aim).cls ≠ "java/lang/invoke/MethodHandle" ∧ (ab_my mX1_aim).cls ≠ "java/lang/invoke/VarHandle" ∧ (parseMethodDescriptor (ab_my mX1_aim).desc).map (fun d => d.parameters.length) = some 2) := ⟨(hb_w1 5 (by decide +kernel)), by decide +kernel⟩
theorem ci_mX1_aim : Cond.instanceMethod (ab_my mX1_aim) ∈ hb_TB := (hb_w5 167 (by decide +kernel))
theorem cs_mX1_aim : Cond.selects (ab_my mX1_aim).cls (ab_my mX1_aim) (ab_my mX1_aim) ∈ hb_TB := (hb_w5 168 (by decide +kernel))
theorem ca_mX7_readSum : Cond.initialized (ab_my mX7_readSum).cls ∈ hb_TB ∧ ((ab_my mX7_readSum).cls ≠ "java/lang/invoke/MethodHandle" ∧ (ab_my mX7_readSum).cls ≠ "java/lang/invoke/VarHandle" ∧ (parseMethodDescriptor (ab_my mX7_readSum).desc).map (fun d => d.parameters.length) = some 1) := ⟨(hb_w1 13 (by decide +kernel)), by decide +kernel⟩
theorem ci_mX7_readSum : Cond.instanceMethod (ab_my mX7_readSum) ∈ hb_TB := (hb_w5 184 (by decide +kernel))
theorem cs_mX7_readSum : Cond.selects (ab_my mX7_readSum).cls (ab_my mX7_readSum) (ab_my mX7_readSum) ∈ hb_TB := (hb_w0 41 (by decide +kernel))
theorem ca_mX7_readProduct : Cond.initialized (ab_my mX7_readProduct).cls ∈ hb_TB ∧ ((ab_my mX7_readProduct).cls ≠ "java/lang/invoke/MethodHandle" ∧ (ab_my mX7_readProduct).cls ≠ "java/lang/invoke/VarHandle" ∧ (parseMethodDescriptor (ab_my mX7_readProduct).desc).map (fun d => d.parameters.length) = some 1) := ⟨(hb_w1 13 (by decide +kernel)), by decide +kernel⟩
theorem ci_mX7_readProduct : Cond.instanceMethod (ab_my mX7_readProduct) ∈ hb_TB := (hb_w5 188 (by decide +kernel))
theorem cs_mX7_readProduct : Cond.selects (ab_my mX7_readProduct).cls (ab_my mX7_readProduct) (ab_my mX7_readProduct) ∈ hb_TB := (hb_w0 42 (by decide +kernel))
theorem ca_mX7_readP : Cond.initialized (ab_my mX7_readP).cls ∈ hb_TB ∧ ((ab_my mX7_readP).cls ≠ "java/lang/invoke/MethodHandle" ∧ (ab_my mX7_readP).cls ≠ "java/lang/invoke/VarHandle" ∧ (parseMethodDescriptor (ab_my mX7_readP).desc).map (fun d => d.parameters.length) = some 1) := ⟨(hb_w1 13 (by decide +kernel)), by decide +kernel⟩
theorem ci_mX7_readP : Cond.instanceMethod (ab_my mX7_readP) ∈ hb_TB := (hb_w5 192 (by decide +kernel))
theorem cs_mX7_readP : Cond.selects (ab_my mX7_readP).cls (ab_my mX7_readP) (ab_my mX7_readP) ∈ hb_TB := (hb_w0 43 (by decide +kernel))
theorem ca_mX7_readNamed : Cond.initialized (ab_my mX7_readNamed).cls ∈ hb_TB ∧ ((ab_my mX7_readNamed).cls ≠ "java/lang/invoke/MethodHandle" ∧ (ab_my mX7_readNamed).cls ≠ "java/lang/invoke/VarHandle" ∧ (parseMethodDescriptor (ab_my mX7_readNamed).desc).map (fun d => d.parameters.length) = some 1) := ⟨(hb_w1 13 (by decide +kernel)), by decide +kernel⟩
theorem ci_mX7_readNamed : Cond.instanceMethod (ab_my mX7_readNamed) ∈ hb_TB := (hb_w5 196 (by decide +kernel))
theorem cs_mX7_readNamed : Cond.selects (ab_my mX7_readNamed).cls (ab_my mX7_readNamed) (ab_my mX7_readNamed) ∈ hb_TB := (hb_w0 44 (by decide +kernel))
theorem ca_mX7_readNext : Cond.initialized (ab_my mX7_readNext).cls ∈ hb_TB ∧ ((ab_my mX7_readNext).cls ≠ "java/lang/invoke/MethodHandle" ∧ (ab_my mX7_readNext).cls ≠ "java/lang/invoke/VarHandle" ∧ (parseMethodDescriptor (ab_my mX7_readNext).desc).map (fun d => d.parameters.length) = some 1) := ⟨(hb_w1 13 (by decide +kernel)), by decide +kernel⟩
theorem ci_mX7_readNext : Cond.instanceMethod (ab_my mX7_readNext) ∈ hb_TB := (hb_w5 204 (by decide +kernel))
theorem cs_mX7_readNext : Cond.selects (ab_my mX7_readNext).cls (ab_my mX7_readNext) (ab_my mX7_readNext) ∈ hb_TB := (hb_w0 46 (by decide +kernel))
theorem ca_mX7_readArguments : Cond.initialized (ab_my mX7_readArguments).cls ∈ hb_TB ∧ ((ab_my mX7_readArguments).cls ≠ "java/lang/invoke/MethodHandle" ∧ (ab_my mX7_readArguments).cls ≠ "java/lang/invoke/VarHandle" ∧ (parseMethodDescriptor (ab_my mX7_readArguments).desc).map (fun d => d.parameters.length) = some 2) := ⟨(hb_w1 13 (by decide +kernel)), by decide +kernel⟩
theorem ci_mX7_readArguments : Cond.instanceMethod (ab_my mX7_readArguments) ∈ hb_TB := (hb_w5 200 (by decide +kernel))
theorem cs_mX7_readArguments : Cond.selects (ab_my mX7_readArguments).cls (ab_my mX7_readArguments) (ab_my mX7_readArguments) ∈ hb_TB := (hb_w0 45 (by decide +kernel))
theorem ca_mX8_cutOne : Cond.initialized (ab_my mX8_cutOne).cls ∈ hb_TB ∧ ((ab_my mX8_cutOne).cls ≠ "java/lang/invoke/MethodHandle" ∧ (ab_my mX8_cutOne).cls ≠ "java/lang/invoke/VarHandle" ∧ (parseMethodDescriptor (ab_my mX8_cutOne).desc).map (fun d => d.parameters.length) = some 3) := ⟨(hb_w1 6 (by decide +kernel)), by decide +kernel⟩
theorem ci_mX8_cutOne : Cond.instanceMethod (ab_my mX8_cutOne) ∈ hb_TB := (hb_w4 162 (by decide +kernel))
theorem cs_mX8_cutOne : Cond.selects (ab_my mX8_cutOne).cls (ab_my mX8_cutOne) (ab_my mX8_cutOne) ∈ hb_TB := (hb_w0 9 (by decide +kernel))
theorem ca_mX8_put : Cond.initialized (ab_my mX8_put).cls ∈ hb_TB ∧ ((ab_my mX8_put).cls ≠ "java/lang/invoke/MethodHandle" ∧ (ab_my mX8_put).cls ≠ "java/lang/invoke/VarHandle" ∧ (parseMethodDescriptor (ab_my mX8_put).desc).map (fun d => d.parameters.length) = some 4) := ⟨(hb_w1 6 (by decide +kernel)), by decide +kernel⟩
theorem ci_mX8_put : Cond.instanceMethod (ab_my mX8_put) ∈ hb_TB := (hb_w4 176 (by decide +kernel))
theorem cs_mX8_put : Cond.selects (ab_my mX8_put).cls (ab_my mX8_put) (ab_my mX8_put) ∈ hb_TB := (hb_w0 11 (by decide +kernel))
theorem ca_mX8_cutNumber : Cond.initialized (ab_my mX8_cutNumber).cls ∈ hb_TB ∧ ((ab_my mX8_cutNumber).cls ≠ "java/lang/invoke/MethodHandle" ∧ (ab_my mX8_cutNumber).cls ≠ "java/lang/invoke/VarHandle" ∧ (parseMethodDescriptor (ab_my mX8_cutNumber).desc).map (fun d => d.parameters.length) = some 3) := ⟨(hb_w1 6 (by decide +kernel)), by decide +kernel⟩
theorem ci_mX8_cutNumber : Cond.instanceMethod (ab_my mX8_cutNumber) ∈ hb_TB := (hb_w4 166 (by decide +kernel))
theorem cs_mX8_cutNumber : Cond.selects (ab_my mX8_cutNumber).cls (ab_my mX8_cutNumber) (ab_my mX8_cutNumber) ∈ hb_TB := (hb_w0 10 (by decide +kernel))
theorem ca_mX8_codeOf : Cond.initialized (ab_my mX8_codeOf).cls ∈ hb_TB ∧ ((ab_my mX8_codeOf).cls ≠ "java/lang/invoke/MethodHandle" ∧ (ab_my mX8_codeOf).cls ≠ "java/lang/invoke/VarHandle" ∧ (parseMethodDescriptor (ab_my mX8_codeOf).desc).map (fun d => d.parameters.length) = some 1) := ⟨(hb_w1 6 (by decide +kernel)), by decide +kernel⟩
theorem ct_mX8_codeOf : Cond.static (ab_my mX8_codeOf) ∈ hb_TB := (hb_w2 31 (by decide +kernel))
theorem ca_mX8_cutName : Cond.initialized (ab_my mX8_cutName).cls ∈ hb_TB ∧ ((ab_my mX8_cutName).cls ≠ "java/lang/invoke/MethodHandle" ∧ (ab_my mX8_cutName).cls ≠ "java/lang/invoke/VarHandle" ∧ (parseMethodDescriptor (ab_my mX8_cutName).desc).map (fun d => d.parameters.length) = some 3) := ⟨(hb_w1 6 (by decide +kernel)), by decide +kernel⟩
theorem ci_mX8_cutName : Cond.instanceMethod (ab_my mX8_cutName) ∈ hb_TB := (hb_w4 180 (by decide +kernel))
theorem cs_mX8_cutName : Cond.selects (ab_my mX8_cutName).cls (ab_my mX8_cutName) (ab_my mX8_cutName) ∈ hb_TB := (hb_w0 12 (by decide +kernel))
theorem ca_mX8_cutMark : Cond.initialized (ab_my mX8_cutMark).cls ∈ hb_TB ∧ ((ab_my mX8_cutMark).cls ≠ "java/lang/invoke/MethodHandle" ∧ (ab_my mX8_cutMark).cls ≠ "java/lang/invoke/VarHandle" ∧ (parseMethodDescriptor (ab_my mX8_cutMark).desc).map (fun d => d.parameters.length) = some 3) := ⟨(hb_w1 6 (by decide +kernel)), by decide +kernel⟩
theorem ci_mX8_cutMark : Cond.instanceMethod (ab_my mX8_cutMark) ∈ hb_TB := (hb_w4 191 (by decide +kernel))
theorem cs_mX8_cutMark : Cond.selects (ab_my mX8_cutMark).cls (ab_my mX8_cutMark) (ab_my mX8_cutMark) ∈ hb_TB := (hb_w0 13 (by decide +kernel))
theorem ca_mX8_wordOrName : Cond.initialized (ab_my mX8_wordOrName).cls ∈ hb_TB ∧ ((ab_my mX8_wordOrName).cls ≠ "java/lang/invoke/MethodHandle" ∧ (ab_my mX8_wordOrName).cls ≠ "java/lang/invoke/VarHandle" ∧ (parseMethodDescriptor (ab_my mX8_wordOrName).desc).map (fun d => d.parameters.length) = some 3) := ⟨(hb_w1 6 (by decide +kernel)), by decide +kernel⟩
theorem ct_mX8_wordOrName : Cond.static (ab_my mX8_wordOrName) ∈ hb_TB := (hb_w4 183 (by decide +kernel))
theorem ca_mJ0_indexOf_0f7a4 : Cond.initialized (ab_my mJ0_indexOf_0f7a4).cls ∈ hb_TB ∧ ((ab_my mJ0_indexOf_0f7a4).cls ≠ "java/lang/invoke/MethodHandle" ∧ (ab_my mJ0_indexOf_0f7a4).cls ≠ "java/lang/invoke/VarHandle" ∧ (parseMethodDescriptor (ab_my mJ0_indexOf_0f7a4).desc).map (fun d => d.parameters.length) = some 1) := ⟨(hb_w1 7 (by decide +kernel)), by decide +kernel⟩
theorem ci_mJ0_indexOf_0f7a4 : Cond.instanceMethod (ab_my mJ0_indexOf_0f7a4) ∈ hb_TB := (hb_w4 195 (by decide +kernel))
theorem cs_mJ0_indexOf_0f7a4 : Cond.selects (ab_my mJ0_indexOf_0f7a4).cls (ab_my mJ0_indexOf_0f7a4) (ab_my mJ0_indexOf_0f7a4) ∈ hb_TB := (hb_w4 196 (by decide +kernel))
theorem ca_mJ0_length_8abf5 : Cond.initialized (ab_my mJ0_length_8abf5).cls ∈ hb_TB ∧ ((ab_my mJ0_length_8abf5).cls ≠ "java/lang/invoke/MethodHandle" ∧ (ab_my mJ0_length_8abf5).cls ≠ "java/lang/invoke/VarHandle" ∧ (parseMethodDescriptor (ab_my mJ0_length_8abf5).desc).map (fun d => d.parameters.length) = some 0) := ⟨(hb_w1 7 (by decide +kernel)), by decide +kernel⟩
theorem ci_mJ0_length_8abf5 : Cond.instanceMethod (ab_my mJ0_length_8abf5) ∈ hb_TB := (hb_w1 223 (by decide +kernel))
theorem cs_mJ0_length_8abf5 : Cond.selects (ab_my mJ0_length_8abf5).cls (ab_my mJ0_length_8abf5) (ab_my mJ0_length_8abf5) ∈ hb_TB := (hb_w1 224 (by decide +kernel))
theorem ca_mJ0_charAt_5068e : Cond.initialized (ab_my mJ0_charAt_5068e).cls ∈ hb_TB ∧ ((ab_my mJ0_charAt_5068e).cls ≠ "java/lang/invoke/MethodHandle" ∧ (ab_my mJ0_charAt_5068e).cls ≠ "java/lang/invoke/VarHandle" ∧ (parseMethodDescriptor (ab_my mJ0_charAt_5068e).desc).map (fun d => d.parameters.length) = some 1) := ⟨(hb_w1 7 (by decide +kernel)), by decide +kernel⟩
theorem ci_mJ0_charAt_5068e : Cond.instanceMethod (ab_my mJ0_charAt_5068e) ∈ hb_TB := (hb_w1 233 (by decide +kernel))
theorem cs_mJ0_charAt_5068e : Cond.selects (ab_my mJ0_charAt_5068e).cls (ab_my mJ0_charAt_5068e) (ab_my mJ0_charAt_5068e) ∈ hb_TB := (hb_w1 234 (by decide +kernel))
theorem ca_mX8_isWord : Cond.initialized (ab_my mX8_isWord).cls ∈ hb_TB ∧ ((ab_my mX8_isWord).cls ≠ "java/lang/invoke/MethodHandle" ∧ (ab_my mX8_isWord).cls ≠ "java/lang/invoke/VarHandle" ∧ (parseMethodDescriptor (ab_my mX8_isWord).desc).map (fun d => d.parameters.length) = some 4) := ⟨(hb_w1 6 (by decide +kernel)), by decide +kernel⟩
theorem ct_mX8_isWord : Cond.static (ab_my mX8_isWord) ∈ hb_TB := (hb_w4 187 (by decide +kernel))
theorem ca_mX9_addCut : Cond.initialized (ab_my mX9_addCut).cls ∈ hb_TB ∧ ((ab_my mX9_addCut).cls ≠ "java/lang/invoke/MethodHandle" ∧ (ab_my mX9_addCut).cls ≠ "java/lang/invoke/VarHandle" ∧ (parseMethodDescriptor (ab_my mX9_addCut).desc).map (fun d => d.parameters.length) = some 4) := ⟨(hb_w1 15 (by decide +kernel)), by decide +kernel⟩
theorem ci_mX9_addCut : Cond.instanceMethod (ab_my mX9_addCut) ∈ hb_TB := (hb_w6 206 (by decide +kernel))
theorem cs_mX9_addCut : Cond.selects (ab_my mX9_addCut).cls (ab_my mX9_addCut) (ab_my mX9_addCut) ∈ hb_TB := (hb_w0 54 (by decide +kernel))
theorem ca_mX9_goToSide : Cond.initialized (ab_my mX9_goToSide).cls ∈ hb_TB ∧ ((ab_my mX9_goToSide).cls ≠ "java/lang/invoke/MethodHandle" ∧ (ab_my mX9_goToSide).cls ≠ "java/lang/invoke/VarHandle" ∧ (parseMethodDescriptor (ab_my mX9_goToSide).desc).map (fun d => d.parameters.length) = some 1) := ⟨(hb_w1 15 (by decide +kernel)), by decide +kernel⟩
theorem ci_mX9_goToSide : Cond.instanceMethod (ab_my mX9_goToSide) ∈ hb_TB := (hb_w6 222 (by decide +kernel))
theorem cs_mX9_goToSide : Cond.selects (ab_my mX9_goToSide).cls (ab_my mX9_goToSide) (ab_my mX9_goToSide) ∈ hb_TB := (hb_w0 55 (by decide +kernel))
theorem ca_mX9_holds : Cond.initialized (ab_my mX9_holds).cls ∈ hb_TB ∧ ((ab_my mX9_holds).cls ≠ "java/lang/invoke/MethodHandle" ∧ (ab_my mX9_holds).cls ≠ "java/lang/invoke/VarHandle" ∧ (parseMethodDescriptor (ab_my mX9_holds).desc).map (fun d => d.parameters.length) = some 1) := ⟨(hb_w1 15 (by decide +kernel)), by decide +kernel⟩
theorem ci_mX9_holds : Cond.instanceMethod (ab_my mX9_holds) ∈ hb_TB := (hb_w6 230 (by decide +kernel))
theorem cs_mX9_holds : Cond.selects (ab_my mX9_holds).cls (ab_my mX9_holds) (ab_my mX9_holds) ∈ hb_TB := (hb_w0 56 (by decide +kernel))
theorem ca_mX10_goToRow : Cond.initialized (ab_my mX10_goToRow).cls ∈ hb_TB ∧ ((ab_my mX10_goToRow).cls ≠ "java/lang/invoke/MethodHandle" ∧ (ab_my mX10_goToRow).cls ≠ "java/lang/invoke/VarHandle" ∧ (parseMethodDescriptor (ab_my mX10_goToRow).desc).map (fun d => d.parameters.length) = some 2) := ⟨(hb_w1 17 (by decide +kernel)), by decide +kernel⟩
theorem ci_mX10_goToRow : Cond.instanceMethod (ab_my mX10_goToRow) ∈ hb_TB := (hb_w7 80 (by decide +kernel))
theorem cs_mX10_goToRow : Cond.selects (ab_my mX10_goToRow).cls (ab_my mX10_goToRow) (ab_my mX10_goToRow) ∈ hb_TB := (hb_w0 65 (by decide +kernel))
theorem ca_mX10_gatherFitting : Cond.initialized (ab_my mX10_gatherFitting).cls ∈ hb_TB ∧ ((ab_my mX10_gatherFitting).cls ≠ "java/lang/invoke/MethodHandle" ∧ (ab_my mX10_gatherFitting).cls ≠ "java/lang/invoke/VarHandle" ∧ (parseMethodDescriptor (ab_my mX10_gatherFitting).desc).map (fun d => d.parameters.length) = some 1) := ⟨(hb_w1 17 (by decide +kernel)), by decide +kernel⟩
theorem ci_mX10_gatherFitting : Cond.instanceMethod (ab_my mX10_gatherFitting) ∈ hb_TB := (hb_w7 84 (by decide +kernel))
theorem cs_mX10_gatherFitting : Cond.selects (ab_my mX10_gatherFitting).cls (ab_my mX10_gatherFitting) (ab_my mX10_gatherFitting) ∈ hb_TB := (hb_w0 66 (by decide +kernel))
theorem ca_mX10_judgeRow : Cond.initialized (ab_my mX10_judgeRow).cls ∈ hb_TB ∧ ((ab_my mX10_judgeRow).cls ≠ "java/lang/invoke/MethodHandle" ∧ (ab_my mX10_judgeRow).cls ≠ "java/lang/invoke/VarHandle" ∧ (parseMethodDescriptor (ab_my mX10_judgeRow).desc).map (fun d => d.parameters.length) = some 1) := ⟨(hb_w1 17 (by decide +kernel)), by decide +kernel⟩
theorem ci_mX10_judgeRow : Cond.instanceMethod (ab_my mX10_judgeRow) ∈ hb_TB := (hb_w7 100 (by decide +kernel))
theorem cs_mX10_judgeRow : Cond.selects (ab_my mX10_judgeRow).cls (ab_my mX10_judgeRow) (ab_my mX10_judgeRow) ∈ hb_TB := (hb_w0 67 (by decide +kernel))
theorem ca_mX10_keepKinds : Cond.initialized (ab_my mX10_keepKinds).cls ∈ hb_TB ∧ ((ab_my mX10_keepKinds).cls ≠ "java/lang/invoke/MethodHandle" ∧ (ab_my mX10_keepKinds).cls ≠ "java/lang/invoke/VarHandle" ∧ (parseMethodDescriptor (ab_my mX10_keepKinds).desc).map (fun d => d.parameters.length) = some 1) := ⟨(hb_w1 17 (by decide +kernel)), by decide +kernel⟩
theorem ci_mX10_keepKinds : Cond.instanceMethod (ab_my mX10_keepKinds) ∈ hb_TB := (hb_w7 115 (by decide +kernel))
theorem cs_mX10_keepKinds : Cond.selects (ab_my mX10_keepKinds).cls (ab_my mX10_keepKinds) (ab_my mX10_keepKinds) ∈ hb_TB := (hb_w0 69 (by decide +kernel))
theorem ca_mX10_hasNearest : Cond.initialized (ab_my mX10_hasNearest).cls ∈ hb_TB ∧ ((ab_my mX10_hasNearest).cls ≠ "java/lang/invoke/MethodHandle" ∧ (ab_my mX10_hasNearest).cls ≠ "java/lang/invoke/VarHandle" ∧ (parseMethodDescriptor (ab_my mX10_hasNearest).desc).map (fun d => d.parameters.length) = some 0) := ⟨(hb_w1 17 (by decide +kernel)), by decide +kernel⟩
theorem ci_mX10_hasNearest : Cond.instanceMethod (ab_my mX10_hasNearest) ∈ hb_TB := (hb_w7 110 (by decide +kernel))
theorem cs_mX10_hasNearest : Cond.selects (ab_my mX10_hasNearest).cls (ab_my mX10_hasNearest) (ab_my mX10_hasNearest) ∈ hb_TB := (hb_w0 68 (by decide +kernel))
theorem ca_mX2_init : Cond.initialized (ab_my mX2_init).cls ∈ hb_TB ∧ ((ab_my mX2_init).cls ≠ "java/lang/invoke/MethodHandle" ∧ (ab_my mX2_init).cls ≠ "java/lang/invoke/VarHandle" ∧ (parseMethodDescriptor (ab_my mX2_init).desc).map (fun d => d.parameters.length) = some 0) := ⟨(hb_w1 3 (by decide +kernel)), by decide +kernel⟩
theorem ci_mX2_init : Cond.instanceMethod (ab_my mX2_init) ∈ hb_TB := (hb_w1 63 (by decide +kernel))
theorem ca_mX5_init : Cond.initialized (ab_my mX5_init).cls ∈ hb_TB ∧ ((ab_my mX5_init).cls ≠ "java/lang/invoke/MethodHandle" ∧ (ab_my mX5_init).cls ≠ "java/lang/invoke/VarHandle" ∧ (parseMethodDescriptor (ab_my mX5_init).desc).map (fun d => d.parameters.length) = some 0) := ⟨(hb_w1 4 (by decide +kernel)), by decide +kernel⟩
theorem ci_mX5_init : Cond.instanceMethod (ab_my mX5_init) ∈ hb_TB := (hb_w1 100 (by decide +kernel))
theorem ca_mX1_init : Cond.initialized (ab_my mX1_init).cls ∈ hb_TB ∧ ((ab_my mX1_init).cls ≠ "java/lang/invoke/MethodHandle" ∧ (ab_my mX1_init).cls ≠ "java/lang/invoke/VarHandle" ∧ (parseMethodDescriptor (ab_my mX1_init).desc).map (fun d => d.parameters.length) = some 0) := ⟨(hb_w1 5 (by decide +kernel)), by decide +kernel⟩
theorem ci_mX1_init : Cond.instanceMethod (ab_my mX1_init) ∈ hb_TB := (hb_w1 193 (by decide +kernel))
theorem ca_mX8_packed : Cond.initialized (ab_my mX8_packed).cls ∈ hb_TB ∧ ((ab_my mX8_packed).cls ≠ "java/lang/invoke/MethodHandle" ∧ (ab_my mX8_packed).cls ≠ "java/lang/invoke/VarHandle" ∧ (parseMethodDescriptor (ab_my mX8_packed).desc).map (fun d => d.parameters.length) = some 1) := ⟨(hb_w1 6 (by decide +kernel)), by decide +kernel⟩
theorem ct_mX8_packed : Cond.static (ab_my mX8_packed) ∈ hb_TB := (hb_w1 220 (by decide +kernel))
theorem ca_mJ7_fill_d0a16 : Cond.initialized (ab_my mJ7_fill_d0a16).cls ∈ hb_TB ∧ ((ab_my mJ7_fill_d0a16).cls ≠ "java/lang/invoke/MethodHandle" ∧ (ab_my mJ7_fill_d0a16).cls ≠ "java/lang/invoke/VarHandle" ∧ (parseMethodDescriptor (ab_my mJ7_fill_d0a16).desc).map (fun d => d.parameters.length) = some 2) := ⟨(hb_w1 12 (by decide +kernel)), by decide +kernel⟩
theorem ct_mJ7_fill_d0a16 : Cond.static (ab_my mJ7_fill_d0a16) ∈ hb_TB := (hb_w2 105 (by decide +kernel))
theorem ca_mX5_isThere : Cond.initialized (ab_my mX5_isThere).cls ∈ hb_TB ∧ ((ab_my mX5_isThere).cls ≠ "java/lang/invoke/MethodHandle" ∧ (ab_my mX5_isThere).cls ≠ "java/lang/invoke/VarHandle" ∧ (parseMethodDescriptor (ab_my mX5_isThere).desc).map (fun d => d.parameters.length) = some 1) := ⟨(hb_w1 4 (by decide +kernel)), by decide +kernel⟩
theorem ci_mX5_isThere : Cond.instanceMethod (ab_my mX5_isThere) ∈ hb_TB := (hb_w2 108 (by decide +kernel))
theorem cs_mX5_isThere : Cond.selects (ab_my mX5_isThere).cls (ab_my mX5_isThere) (ab_my mX5_isThere) ∈ hb_TB := (hb_w2 109 (by decide +kernel))
theorem ca_mX11_takeStockOf : Cond.initialized (ab_my mX11_takeStockOf).cls ∈ hb_TB ∧ ((ab_my mX11_takeStockOf).cls ≠ "java/lang/invoke/MethodHandle" ∧ (ab_my mX11_takeStockOf).cls ≠ "java/lang/invoke/VarHandle" ∧ (parseMethodDescriptor (ab_my mX11_takeStockOf).desc).map (fun d => d.parameters.length) = some 1) := ⟨(hb_w1 2 (by decide +kernel)), by decide +kernel⟩
theorem ci_mX11_takeStockOf : Cond.instanceMethod (ab_my mX11_takeStockOf) ∈ hb_TB := (hb_w2 113 (by decide +kernel))
theorem cs_mX11_takeStockOf : Cond.selects (ab_my mX11_takeStockOf).cls (ab_my mX11_takeStockOf) (ab_my mX11_takeStockOf) ∈ hb_TB := (hb_w0 8 (by decide +kernel))
theorem ca_mJ13_bitCount_95d88 : Cond.initialized (ab_my mJ13_bitCount_95d88).cls ∈ hb_TB ∧ ((ab_my mJ13_bitCount_95d88).cls ≠ "java/lang/invoke/MethodHandle" ∧ (ab_my mJ13_bitCount_95d88).cls ≠ "java/lang/invoke/VarHandle" ∧ (parseMethodDescriptor (ab_my mJ13_bitCount_95d88).desc).map (fun d => d.parameters.length) = some 1) := ⟨(hb_w1 44 (by decide +kernel)), by decide +kernel⟩
theorem ct_mJ13_bitCount_95d88 : Cond.static (ab_my mJ13_bitCount_95d88) ∈ hb_TB := (hb_w7 12 (by decide +kernel))
theorem ca_mJ13_numberOfTrailingZeros_95d88 : Cond.initialized (ab_my mJ13_numberOfTrailingZeros_95d88).cls ∈ hb_TB ∧ ((ab_my mJ13_numberOfTrailingZeros_95d88).cls ≠ "java/lang/invoke/MethodHandle" ∧ (ab_my mJ13_numberOfTrailingZeros_95d88).cls ≠ "java/lang/invoke/VarHandle" ∧ (parseMethodDescriptor (ab_my mJ13_numberOfTrailingZeros_95d88).desc).map (fun d => d.parameters.length) = some 1) := ⟨(hb_w1 44 (by decide +kernel)), by decide +kernel⟩
theorem ct_mJ13_numberOfTrailingZeros_95d88 : Cond.static (ab_my mJ13_numberOfTrailingZeros_95d88) ∈ hb_TB := (hb_w7 91 (by decide +kernel))
theorem ca_mX11_init : Cond.initialized (ab_my mX11_init).cls ∈ hb_TB ∧ ((ab_my mX11_init).cls ≠ "java/lang/invoke/MethodHandle" ∧ (ab_my mX11_init).cls ≠ "java/lang/invoke/VarHandle" ∧ (parseMethodDescriptor (ab_my mX11_init).desc).map (fun d => d.parameters.length) = some 0) := ⟨(hb_w1 2 (by decide +kernel)), by decide +kernel⟩
theorem ci_mX11_init : Cond.instanceMethod (ab_my mX11_init) ∈ hb_TB := (hb_w1 57 (by decide +kernel))
theorem ca_mX7_init : Cond.initialized (ab_my mX7_init).cls ∈ hb_TB ∧ ((ab_my mX7_init).cls ≠ "java/lang/invoke/MethodHandle" ∧ (ab_my mX7_init).cls ≠ "java/lang/invoke/VarHandle" ∧ (parseMethodDescriptor (ab_my mX7_init).desc).map (fun d => d.parameters.length) = some 1) := ⟨(hb_w1 13 (by decide +kernel)), by decide +kernel⟩
theorem ci_mX7_init : Cond.instanceMethod (ab_my mX7_init) ∈ hb_TB := (hb_w2 221 (by decide +kernel))
theorem ca_mX6_init : Cond.initialized (ab_my mX6_init).cls ∈ hb_TB ∧ ((ab_my mX6_init).cls ≠ "java/lang/invoke/MethodHandle" ∧ (ab_my mX6_init).cls ≠ "java/lang/invoke/VarHandle" ∧ (parseMethodDescriptor (ab_my mX6_init).desc).map (fun d => d.parameters.length) = some 1) := ⟨(hb_w1 14 (by decide +kernel)), by decide +kernel⟩
theorem ci_mX6_init : Cond.instanceMethod (ab_my mX6_init) ∈ hb_TB := (hb_w3 55 (by decide +kernel))
theorem ca_mX3_init : Cond.initialized (ab_my mX3_init).cls ∈ hb_TB ∧ ((ab_my mX3_init).cls ≠ "java/lang/invoke/MethodHandle" ∧ (ab_my mX3_init).cls ≠ "java/lang/invoke/VarHandle" ∧ (parseMethodDescriptor (ab_my mX3_init).desc).map (fun d => d.parameters.length) = some 1) := ⟨(hb_w1 16 (by decide +kernel)), by decide +kernel⟩
theorem ci_mX3_init : Cond.instanceMethod (ab_my mX3_init) ∈ hb_TB := (hb_w3 119 (by decide +kernel))
theorem ca_mX10_init : Cond.initialized (ab_my mX10_init).cls ∈ hb_TB ∧ ((ab_my mX10_init).cls ≠ "java/lang/invoke/MethodHandle" ∧ (ab_my mX10_init).cls ≠ "java/lang/invoke/VarHandle" ∧ (parseMethodDescriptor (ab_my mX10_init).desc).map (fun d => d.parameters.length) = some 2) := ⟨(hb_w1 17 (by decide +kernel)), by decide +kernel⟩
theorem ci_mX10_init : Cond.instanceMethod (ab_my mX10_init) ∈ hb_TB := (hb_w3 165 (by decide +kernel))
theorem ca_mX0_init : Cond.initialized (ab_my mX0_init).cls ∈ hb_TB ∧ ((ab_my mX0_init).cls ≠ "java/lang/invoke/MethodHandle" ∧ (ab_my mX0_init).cls ≠ "java/lang/invoke/VarHandle" ∧ (parseMethodDescriptor (ab_my mX0_init).desc).map (fun d => d.parameters.length) = some 3) := ⟨(hb_w1 19 (by decide +kernel)), by decide +kernel⟩
theorem ci_mX0_init : Cond.instanceMethod (ab_my mX0_init) ∈ hb_TB := (hb_w3 213 (by decide +kernel))
theorem ca_mX4_init : Cond.initialized (ab_my mX4_init).cls ∈ hb_TB ∧ ((ab_my mX4_init).cls ≠ "java/lang/invoke/MethodHandle" ∧ (ab_my mX4_init).cls ≠ "java/lang/invoke/VarHandle" ∧ (parseMethodDescriptor (ab_my mX4_init).desc).map (fun d => d.parameters.length) = some 2) := ⟨(hb_w1 18 (by decide +kernel)), by decide +kernel⟩
theorem ci_mX4_init : Cond.instanceMethod (ab_my mX4_init) ∈ hb_TB := (hb_w4 32 (by decide +kernel))
theorem ca_mJ7_copyOf_9075b : Cond.initialized (ab_my mJ7_copyOf_9075b).cls ∈ hb_TB ∧ ((ab_my mJ7_copyOf_9075b).cls ≠ "java/lang/invoke/MethodHandle" ∧ (ab_my mJ7_copyOf_9075b).cls ≠ "java/lang/invoke/VarHandle" ∧ (parseMethodDescriptor (ab_my mJ7_copyOf_9075b).desc).map (fun d => d.parameters.length) = some 2) := ⟨(hb_w1 12 (by decide +kernel)), by decide +kernel⟩
theorem ct_mJ7_copyOf_9075b : Cond.static (ab_my mJ7_copyOf_9075b) ∈ hb_TB := (hb_w6 85 (by decide +kernel))
theorem ca_mX12_putOnTape : Cond.initialized (ab_my mX12_putOnTape).cls ∈ hb_TB ∧ ((ab_my mX12_putOnTape).cls ≠ "java/lang/invoke/MethodHandle" ∧ (ab_my mX12_putOnTape).cls ≠ "java/lang/invoke/VarHandle" ∧ (parseMethodDescriptor (ab_my mX12_putOnTape).desc).map (fun d => d.parameters.length) = some 1) := ⟨(hb_w1 1 (by decide +kernel)), by decide +kernel⟩
theorem ci_mX12_putOnTape : Cond.instanceMethod (ab_my mX12_putOnTape) ∈ hb_TB := (hb_w6 94 (by decide +kernel))
theorem cs_mX12_putOnTape : Cond.selects (ab_my mX12_putOnTape).cls (ab_my mX12_putOnTape) (ab_my mX12_putOnTape) ∈ hb_TB := (hb_w0 50 (by decide +kernel))
theorem ca_mX7_readText : Cond.initialized (ab_my mX7_readText).cls ∈ hb_TB ∧ ((ab_my mX7_readText).cls ≠ "java/lang/invoke/MethodHandle" ∧ (ab_my mX7_readText).cls ≠ "java/lang/invoke/VarHandle" ∧ (parseMethodDescriptor (ab_my mX7_readText).desc).map (fun d => d.parameters.length) = some 2) := ⟨(hb_w1 13 (by decide +kernel)), by decide +kernel⟩
theorem ci_mX7_readText : Cond.instanceMethod (ab_my mX7_readText) ∈ hb_TB := (hb_w4 150 (by decide +kernel))
theorem cs_mX7_readText : Cond.selects (ab_my mX7_readText).cls (ab_my mX7_readText) (ab_my mX7_readText) ∈ hb_TB := (hb_w4 151 (by decide +kernel))
theorem ca_mX7_readProgram : Cond.initialized (ab_my mX7_readProgram).cls ∈ hb_TB ∧ ((ab_my mX7_readProgram).cls ≠ "java/lang/invoke/MethodHandle" ∧ (ab_my mX7_readProgram).cls ≠ "java/lang/invoke/VarHandle" ∧ (parseMethodDescriptor (ab_my mX7_readProgram).desc).map (fun d => d.parameters.length) = some 2) := ⟨(hb_w1 13 (by decide +kernel)), by decide +kernel⟩
theorem ci_mX7_readProgram : Cond.instanceMethod (ab_my mX7_readProgram) ∈ hb_TB := (hb_w5 232 (by decide +kernel))
theorem cs_mX7_readProgram : Cond.selects (ab_my mX7_readProgram).cls (ab_my mX7_readProgram) (ab_my mX7_readProgram) ∈ hb_TB := (hb_w5 233 (by decide +kernel))
theorem ca_mX11_beginAnew : Cond.initialized (ab_my mX11_beginAnew).cls ∈ hb_TB ∧ ((ab_my mX11_beginAnew).cls ≠ "java/lang/invoke/MethodHandle" ∧ (ab_my mX11_beginAnew).cls ≠ "java/lang/invoke/VarHandle" ∧ (parseMethodDescriptor (ab_my mX11_beginAnew).desc).map (fun d => d.parameters.length) = some 0) := ⟨(hb_w1 2 (by decide +kernel)), by decide +kernel⟩
theorem ci_mX11_beginAnew : Cond.instanceMethod (ab_my mX11_beginAnew) ∈ hb_TB := (hb_w6 0 (by decide +kernel))
theorem cs_mX11_beginAnew : Cond.selects (ab_my mX11_beginAnew).cls (ab_my mX11_beginAnew) (ab_my mX11_beginAnew) ∈ hb_TB := (hb_w6 1 (by decide +kernel))
theorem ca_mX6_forgetAll : Cond.initialized (ab_my mX6_forgetAll).cls ∈ hb_TB ∧ ((ab_my mX6_forgetAll).cls ≠ "java/lang/invoke/MethodHandle" ∧ (ab_my mX6_forgetAll).cls ≠ "java/lang/invoke/VarHandle" ∧ (parseMethodDescriptor (ab_my mX6_forgetAll).desc).map (fun d => d.parameters.length) = some 0) := ⟨(hb_w1 14 (by decide +kernel)), by decide +kernel⟩
theorem ci_mX6_forgetAll : Cond.instanceMethod (ab_my mX6_forgetAll) ∈ hb_TB := (hb_w6 4 (by decide +kernel))
theorem cs_mX6_forgetAll : Cond.selects (ab_my mX6_forgetAll).cls (ab_my mX6_forgetAll) (ab_my mX6_forgetAll) ∈ hb_TB := (hb_w6 5 (by decide +kernel))
theorem ca_mX11_isKind : Cond.initialized (ab_my mX11_isKind).cls ∈ hb_TB ∧ ((ab_my mX11_isKind).cls ≠ "java/lang/invoke/MethodHandle" ∧ (ab_my mX11_isKind).cls ≠ "java/lang/invoke/VarHandle" ∧ (parseMethodDescriptor (ab_my mX11_isKind).desc).map (fun d => d.parameters.length) = some 1) := ⟨(hb_w1 2 (by decide +kernel)), by decide +kernel⟩
theorem ci_mX11_isKind : Cond.instanceMethod (ab_my mX11_isKind) ∈ hb_TB := (hb_w6 151 (by decide +kernel))
theorem cs_mX11_isKind : Cond.selects (ab_my mX11_isKind).cls (ab_my mX11_isKind) (ab_my mX11_isKind) ∈ hb_TB := (hb_w6 152 (by decide +kernel))
theorem ca_mX11_fits : Cond.initialized (ab_my mX11_fits).cls ∈ hb_TB ∧ ((ab_my mX11_fits).cls ≠ "java/lang/invoke/MethodHandle" ∧ (ab_my mX11_fits).cls ≠ "java/lang/invoke/VarHandle" ∧ (parseMethodDescriptor (ab_my mX11_fits).desc).map (fun d => d.parameters.length) = some 2) := ⟨(hb_w1 2 (by decide +kernel)), by decide +kernel⟩
theorem ci_mX11_fits : Cond.instanceMethod (ab_my mX11_fits) ∈ hb_TB := (hb_w6 171 (by decide +kernel))
theorem cs_mX11_fits : Cond.selects (ab_my mX11_fits).cls (ab_my mX11_fits) (ab_my mX11_fits) ∈ hb_TB := (hb_w6 172 (by decide +kernel))
theorem ca_mX3_countLists : Cond.initialized (ab_my mX3_countLists).cls ∈ hb_TB ∧ ((ab_my mX3_countLists).cls ≠ "java/lang/invoke/MethodHandle" ∧ (ab_my mX3_countLists).cls ≠ "java/lang/invoke/VarHandle" ∧ (parseMethodDescriptor (ab_my mX3_countLists).desc).map (fun d => d.parameters.length) = some 1) := ⟨(hb_w1 16 (by decide +kernel)), by decide +kernel⟩
theorem ci_mX3_countLists : Cond.instanceMethod (ab_my mX3_countLists) ∈ hb_TB := (hb_w7 18 (by decide +kernel))
theorem cs_mX3_countLists : Cond.selects (ab_my mX3_countLists).cls (ab_my mX3_countLists) (ab_my mX3_countLists) ∈ hb_TB := (hb_w7 19 (by decide +kernel))
theorem ca_mX3_countCells : Cond.initialized (ab_my mX3_countCells).cls ∈ hb_TB ∧ ((ab_my mX3_countCells).cls ≠ "java/lang/invoke/MethodHandle" ∧ (ab_my mX3_countCells).cls ≠ "java/lang/invoke/VarHandle" ∧ (parseMethodDescriptor (ab_my mX3_countCells).desc).map (fun d => d.parameters.length) = some 1) := ⟨(hb_w1 16 (by decide +kernel)), by decide +kernel⟩
theorem ci_mX3_countCells : Cond.instanceMethod (ab_my mX3_countCells) ∈ hb_TB := (hb_w7 63 (by decide +kernel))
theorem cs_mX3_countCells : Cond.selects (ab_my mX3_countCells).cls (ab_my mX3_countCells) (ab_my mX3_countCells) ∈ hb_TB := (hb_w7 64 (by decide +kernel))
theorem ca_mX3_countPressed : Cond.initialized (ab_my mX3_countPressed).cls ∈ hb_TB ∧ ((ab_my mX3_countPressed).cls ≠ "java/lang/invoke/MethodHandle" ∧ (ab_my mX3_countPressed).cls ≠ "java/lang/invoke/VarHandle" ∧ (parseMethodDescriptor (ab_my mX3_countPressed).desc).map (fun d => d.parameters.length) = some 1) := ⟨(hb_w1 16 (by decide +kernel)), by decide +kernel⟩
theorem ci_mX3_countPressed : Cond.instanceMethod (ab_my mX3_countPressed) ∈ hb_TB := (hb_w7 67 (by decide +kernel))
theorem cs_mX3_countPressed : Cond.selects (ab_my mX3_countPressed).cls (ab_my mX3_countPressed) (ab_my mX3_countPressed) ∈ hb_TB := (hb_w7 68 (by decide +kernel))
theorem ca_mX3_countNodes : Cond.initialized (ab_my mX3_countNodes).cls ∈ hb_TB ∧ ((ab_my mX3_countNodes).cls ≠ "java/lang/invoke/MethodHandle" ∧ (ab_my mX3_countNodes).cls ≠ "java/lang/invoke/VarHandle" ∧ (parseMethodDescriptor (ab_my mX3_countNodes).desc).map (fun d => d.parameters.length) = some 1) := ⟨(hb_w1 16 (by decide +kernel)), by decide +kernel⟩
theorem ci_mX3_countNodes : Cond.instanceMethod (ab_my mX3_countNodes) ∈ hb_TB := (hb_w7 71 (by decide +kernel))
theorem cs_mX3_countNodes : Cond.selects (ab_my mX3_countNodes).cls (ab_my mX3_countNodes) (ab_my mX3_countNodes) ∈ hb_TB := (hb_w7 72 (by decide +kernel))
theorem ca_mX10_judge : Cond.initialized (ab_my mX10_judge).cls ∈ hb_TB ∧ ((ab_my mX10_judge).cls ≠ "java/lang/invoke/MethodHandle" ∧ (ab_my mX10_judge).cls ≠ "java/lang/invoke/VarHandle" ∧ (parseMethodDescriptor (ab_my mX10_judge).desc).map (fun d => d.parameters.length) = some 1) := ⟨(hb_w1 17 (by decide +kernel)), by decide +kernel⟩
theorem ci_mX10_judge : Cond.instanceMethod (ab_my mX10_judge) ∈ hb_TB := (hb_w7 75 (by decide +kernel))
theorem cs_mX10_judge : Cond.selects (ab_my mX10_judge).cls (ab_my mX10_judge) (ab_my mX10_judge) ∈ hb_TB := (hb_w7 76 (by decide +kernel))
theorem ca_mX4_perform : Cond.initialized (ab_my mX4_perform).cls ∈ hb_TB ∧ ((ab_my mX4_perform).cls ≠ "java/lang/invoke/MethodHandle" ∧ (ab_my mX4_perform).cls ≠ "java/lang/invoke/VarHandle" ∧ (parseMethodDescriptor (ab_my mX4_perform).desc).map (fun d => d.parameters.length) = some 2) := ⟨(hb_w1 18 (by decide +kernel)), by decide +kernel⟩
theorem ci_mX4_perform : Cond.instanceMethod (ab_my mX4_perform) ∈ hb_TB := (hb_w7 141 (by decide +kernel))
theorem cs_mX4_perform : Cond.selects (ab_my mX4_perform).cls (ab_my mX4_perform) (ab_my mX4_perform) ∈ hb_TB := (hb_w7 142 (by decide +kernel))
theorem ca_mX12_byteOfResult : Cond.initialized (ab_my mX12_byteOfResult).cls ∈ hb_TB ∧ ((ab_my mX12_byteOfResult).cls ≠ "java/lang/invoke/MethodHandle" ∧ (ab_my mX12_byteOfResult).cls ≠ "java/lang/invoke/VarHandle" ∧ (parseMethodDescriptor (ab_my mX12_byteOfResult).desc).map (fun d => d.parameters.length) = some 1) := ⟨(hb_w1 1 (by decide +kernel)), by decide +kernel⟩
theorem ci_mX12_byteOfResult : Cond.instanceMethod (ab_my mX12_byteOfResult) ∈ hb_TB := (hb_w8 99 (by decide +kernel))
theorem cs_mX12_byteOfResult : Cond.selects (ab_my mX12_byteOfResult).cls (ab_my mX12_byteOfResult) (ab_my mX12_byteOfResult) ∈ hb_TB := (hb_w0 98 (by decide +kernel))
theorem ca_mX19_init : Cond.initialized (ab_my mX19_init).cls ∈ hb_TB ∧ ((ab_my mX19_init).cls ≠ "java/lang/invoke/MethodHandle" ∧ (ab_my mX19_init).cls ≠ "java/lang/invoke/VarHandle" ∧ (parseMethodDescriptor (ab_my mX19_init).desc).map (fun d => d.parameters.length) = some 0) := ⟨(hb_w1 26 (by decide +kernel)), by decide +kernel⟩
theorem ci_mX19_init : Cond.instanceMethod (ab_my mX19_init) ∈ hb_TB := (hb_w8 166 (by decide +kernel))
theorem ca_mZR15_init : Cond.initialized (ab_my mZR15_init).cls ∈ hb_TB ∧ ((ab_my mZR15_init).cls ≠ "java/lang/invoke/MethodHandle" ∧ (ab_my mZR15_init).cls ≠ "java/lang/invoke/VarHandle" ∧ (parseMethodDescriptor (ab_my mZR15_init).desc).map (fun d => d.parameters.length) = some 4) := ⟨(hb_w1 31 (by decide +kernel)), by decide +kernel⟩
theorem ci_mZR15_init : Cond.instanceMethod (ab_my mZR15_init) ∈ hb_TB := (hb_w9 47 (by decide +kernel))
theorem ca_mZR16_init : Cond.initialized (ab_my mZR16_init).cls ∈ hb_TB ∧ ((ab_my mZR16_init).cls ≠ "java/lang/invoke/MethodHandle" ∧ (ab_my mZR16_init).cls ≠ "java/lang/invoke/VarHandle" ∧ (parseMethodDescriptor (ab_my mZR16_init).desc).map (fun d => d.parameters.length) = some 4) := ⟨(hb_w1 31 (by decide +kernel)), by decide +kernel⟩
theorem ci_mZR16_init : Cond.instanceMethod (ab_my mZR16_init) ∈ hb_TB := (hb_w9 47 (by decide +kernel))
theorem ca_mJx4a65c_init_da8c8 : Cond.initialized (ab_my mJx4a65c_init_da8c8).cls ∈ hb_TB ∧ ((ab_my mJx4a65c_init_da8c8).cls ≠ "java/lang/invoke/MethodHandle" ∧ (ab_my mJx4a65c_init_da8c8).cls ≠ "java/lang/invoke/VarHandle" ∧ (parseMethodDescriptor (ab_my mJx4a65c_init_da8c8).desc).map (fun d => d.parameters.length) = some 0) := ⟨(hb_w1 24 (by decide +kernel)), by decide +kernel⟩
theorem ci_mJx4a65c_init_da8c8 : Cond.instanceMethod (ab_my mJx4a65c_init_da8c8) ∈ hb_TB := (hb_w8 124 (by decide +kernel))
theorem ca_mJx4a65c_size_8abf5 : Cond.initialized (ab_my mJx4a65c_size_8abf5).cls ∈ hb_TB ∧ ((ab_my mJx4a65c_size_8abf5).cls ≠ "java/lang/invoke/MethodHandle" ∧ (ab_my mJx4a65c_size_8abf5).cls ≠ "java/lang/invoke/VarHandle" ∧ (parseMethodDescriptor (ab_my mJx4a65c_size_8abf5).desc).map (fun d => d.parameters.length) = some 0) := ⟨(hb_w1 24 (by decide +kernel)), by decide +kernel⟩
theorem ci_mJx4a65c_size_8abf5 : Cond.instanceMethod (ab_my mJx4a65c_size_8abf5) ∈ hb_TB := (hb_w11 230 (by decide +kernel))
theorem cs_mJx4a65c_size_8abf5 : Cond.selects (ab_my mJx4a65c_size_8abf5).cls (ab_my mJx4a65c_size_8abf5) (ab_my mJx4a65c_size_8abf5) ∈ hb_TB := (hb_w11 231 (by decide +kernel))
theorem ca_mX20_init : Cond.initialized (ab_my mX20_init).cls ∈ hb_TB ∧ ((ab_my mX20_init).cls ≠ "java/lang/invoke/MethodHandle" ∧ (ab_my mX20_init).cls ≠ "java/lang/invoke/VarHandle" ∧ (parseMethodDescriptor (ab_my mX20_init).desc).map (fun d => d.parameters.length) = some 0) := ⟨(hb_w1 41 (by decide +kernel)), by decide +kernel⟩
theorem ci_mX20_init : Cond.instanceMethod (ab_my mX20_init) ∈ hb_TB := (hb_w11 236 (by decide +kernel))
theorem ca_mJx4a65c_add_9ea2d : Cond.initialized (ab_my mJx4a65c_add_9ea2d).cls ∈ hb_TB ∧ ((ab_my mJx4a65c_add_9ea2d).cls ≠ "java/lang/invoke/MethodHandle" ∧ (ab_my mJx4a65c_add_9ea2d).cls ≠ "java/lang/invoke/VarHandle" ∧ (parseMethodDescriptor (ab_my mJx4a65c_add_9ea2d).desc).map (fun d => d.parameters.length) = some 1) := ⟨(hb_w1 24 (by decide +kernel)), by decide +kernel⟩
theorem ci_mJx4a65c_add_9ea2d : Cond.instanceMethod (ab_my mJx4a65c_add_9ea2d) ∈ hb_TB := (hb_w12 49 (by decide +kernel))
theorem cs_mJx4a65c_add_9ea2d : Cond.selects (ab_my mJx4a65c_add_9ea2d).cls (ab_my mJx4a65c_add_9ea2d) (ab_my mJx4a65c_add_9ea2d) ∈ hb_TB := (hb_w12 50 (by decide +kernel))
theorem ca_mJx4a65c_get_915e3 : Cond.initialized (ab_my mJx4a65c_get_915e3).cls ∈ hb_TB ∧ ((ab_my mJx4a65c_get_915e3).cls ≠ "java/lang/invoke/MethodHandle" ∧ (ab_my mJx4a65c_get_915e3).cls ≠ "java/lang/invoke/VarHandle" ∧ (parseMethodDescriptor (ab_my mJx4a65c_get_915e3).desc).map (fun d => d.parameters.length) = some 1) := ⟨(hb_w1 24 (by decide +kernel)), by decide +kernel⟩
theorem ci_mJx4a65c_get_915e3 : Cond.instanceMethod (ab_my mJx4a65c_get_915e3) ∈ hb_TB := (hb_w12 116 (by decide +kernel))
theorem cs_mJx4a65c_get_915e3 : Cond.selects (ab_my mJx4a65c_get_915e3).cls (ab_my mJx4a65c_get_915e3) (ab_my mJx4a65c_get_915e3) ∈ hb_TB := (hb_w12 117 (by decide +kernel))
theorem ca_mX20_be : Cond.initialized (ab_my mX20_be).cls ∈ hb_TB ∧ ((ab_my mX20_be).cls ≠ "java/lang/invoke/MethodHandle" ∧ (ab_my mX20_be).cls ≠ "java/lang/invoke/VarHandle" ∧ (parseMethodDescriptor (ab_my mX20_be).desc).map (fun d => d.parameters.length) = some 1) := ⟨(hb_w1 41 (by decide +kernel)), by decide +kernel⟩
theorem ci_mX20_be : Cond.instanceMethod (ab_my mX20_be) ∈ hb_TB := (hb_w12 128 (by decide +kernel))
theorem cs_mX20_be : Cond.selects (ab_my mX20_be).cls (ab_my mX20_be) (ab_my mX20_be) ∈ hb_TB := (hb_w12 129 (by decide +kernel))
theorem ca_mZR22_init : Cond.initialized (ab_my mZR22_init).cls ∈ hb_TB ∧ ((ab_my mZR22_init).cls ≠ "java/lang/invoke/MethodHandle" ∧ (ab_my mZR22_init).cls ≠ "java/lang/invoke/VarHandle" ∧ (parseMethodDescriptor (ab_my mZR22_init).desc).map (fun d => d.parameters.length) = some 4) := ⟨(hb_w1 31 (by decide +kernel)), by decide +kernel⟩
theorem ci_mZR22_init : Cond.instanceMethod (ab_my mZR22_init) ∈ hb_TB := (hb_w9 47 (by decide +kernel))
theorem ca_mX19_is : Cond.initialized (ab_my mX19_is).cls ∈ hb_TB ∧ ((ab_my mX19_is).cls ≠ "java/lang/invoke/MethodHandle" ∧ (ab_my mX19_is).cls ≠ "java/lang/invoke/VarHandle" ∧ (parseMethodDescriptor (ab_my mX19_is).desc).map (fun d => d.parameters.length) = some 3) := ⟨(hb_w1 26 (by decide +kernel)), by decide +kernel⟩
theorem ci_mX19_is : Cond.instanceMethod (ab_my mX19_is) ∈ hb_TB := (hb_w11 158 (by decide +kernel))
theorem cs_mX19_is : Cond.selects (ab_my mX19_is).cls (ab_my mX19_is) (ab_my mX19_is) ∈ hb_TB := (hb_w11 159 (by decide +kernel))
theorem ca_mX23_isName : Cond.initialized (ab_my mX23_isName).cls ∈ hb_TB ∧ ((ab_my mX23_isName).cls ≠ "java/lang/invoke/MethodHandle" ∧ (ab_my mX23_isName).cls ≠ "java/lang/invoke/VarHandle" ∧ (parseMethodDescriptor (ab_my mX23_isName).desc).map (fun d => d.parameters.length) = some 2) := ⟨(hb_w1 20 (by decide +kernel)), by decide +kernel⟩
theorem ci_mX23_isName : Cond.instanceMethod (ab_my mX23_isName) ∈ hb_TB := (hb_w11 155 (by decide +kernel))
theorem cs_mX23_isName : Cond.selects (ab_my mX23_isName).cls (ab_my mX23_isName) (ab_my mX23_isName) ∈ hb_TB := (hb_w0 121 (by decide +kernel))
theorem ca_mX23_kindNamed : Cond.initialized (ab_my mX23_kindNamed).cls ∈ hb_TB ∧ ((ab_my mX23_kindNamed).cls ≠ "java/lang/invoke/MethodHandle" ∧ (ab_my mX23_kindNamed).cls ≠ "java/lang/invoke/VarHandle" ∧ (parseMethodDescriptor (ab_my mX23_kindNamed).desc).map (fun d => d.parameters.length) = some 1) := ⟨(hb_w1 20 (by decide +kernel)), by decide +kernel⟩
theorem ci_mX23_kindNamed : Cond.instanceMethod (ab_my mX23_kindNamed) ∈ hb_TB := (hb_w11 151 (by decide +kernel))
theorem cs_mX23_kindNamed : Cond.selects (ab_my mX23_kindNamed).cls (ab_my mX23_kindNamed) (ab_my mX23_kindNamed) ∈ hb_TB := (hb_w0 120 (by decide +kernel))
theorem ca_mX23_callNamed : Cond.initialized (ab_my mX23_callNamed).cls ∈ hb_TB ∧ ((ab_my mX23_callNamed).cls ≠ "java/lang/invoke/MethodHandle" ∧ (ab_my mX23_callNamed).cls ≠ "java/lang/invoke/VarHandle" ∧ (parseMethodDescriptor (ab_my mX23_callNamed).desc).map (fun d => d.parameters.length) = some 1) := ⟨(hb_w1 20 (by decide +kernel)), by decide +kernel⟩
theorem ci_mX23_callNamed : Cond.instanceMethod (ab_my mX23_callNamed) ∈ hb_TB := (hb_w11 163 (by decide +kernel))
theorem cs_mX23_callNamed : Cond.selects (ab_my mX23_callNamed).cls (ab_my mX23_callNamed) (ab_my mX23_callNamed) ∈ hb_TB := (hb_w0 122 (by decide +kernel))
theorem ca_mX23_layerNamed : Cond.initialized (ab_my mX23_layerNamed).cls ∈ hb_TB ∧ ((ab_my mX23_layerNamed).cls ≠ "java/lang/invoke/MethodHandle" ∧ (ab_my mX23_layerNamed).cls ≠ "java/lang/invoke/VarHandle" ∧ (parseMethodDescriptor (ab_my mX23_layerNamed).desc).map (fun d => d.parameters.length) = some 1) := ⟨(hb_w1 20 (by decide +kernel)), by decide +kernel⟩
theorem ci_mX23_layerNamed : Cond.instanceMethod (ab_my mX23_layerNamed) ∈ hb_TB := (hb_w11 167 (by decide +kernel))
theorem cs_mX23_layerNamed : Cond.selects (ab_my mX23_layerNamed).cls (ab_my mX23_layerNamed) (ab_my mX23_layerNamed) ∈ hb_TB := (hb_w0 123 (by decide +kernel))
theorem ca_mX17_place : Cond.initialized (ab_my mX17_place).cls ∈ hb_TB ∧ ((ab_my mX17_place).cls ≠ "java/lang/invoke/MethodHandle" ∧ (ab_my mX17_place).cls ≠ "java/lang/invoke/VarHandle" ∧ (parseMethodDescriptor (ab_my mX17_place).desc).map (fun d => d.parameters.length) = some 2) := ⟨(hb_w1 25 (by decide +kernel)), by decide +kernel⟩
theorem ci_mX17_place : Cond.instanceMethod (ab_my mX17_place) ∈ hb_TB := (hb_w9 133 (by decide +kernel))
theorem cs_mX17_place : Cond.selects (ab_my mX17_place).cls (ab_my mX17_place) (ab_my mX17_place) ∈ hb_TB := (hb_w9 134 (by decide +kernel))
theorem ca_mX23_joined : Cond.initialized (ab_my mX23_joined).cls ∈ hb_TB ∧ ((ab_my mX23_joined).cls ≠ "java/lang/invoke/MethodHandle" ∧ (ab_my mX23_joined).cls ≠ "java/lang/invoke/VarHandle" ∧ (parseMethodDescriptor (ab_my mX23_joined).desc).map (fun d => d.parameters.length) = some 3) := ⟨(hb_w1 20 (by decide +kernel)), by decide +kernel⟩
theorem ci_mX23_joined : Cond.instanceMethod (ab_my mX23_joined) ∈ hb_TB := (hb_w9 116 (by decide +kernel))
theorem cs_mX23_joined : Cond.selects (ab_my mX23_joined).cls (ab_my mX23_joined) (ab_my mX23_joined) ∈ hb_TB := (hb_w0 102 (by decide +kernel))
theorem ca_mX23_isFirst : Cond.initialized (ab_my mX23_isFirst).cls ∈ hb_TB ∧ ((ab_my mX23_isFirst).cls ≠ "java/lang/invoke/MethodHandle" ∧ (ab_my mX23_isFirst).cls ≠ "java/lang/invoke/VarHandle" ∧ (parseMethodDescriptor (ab_my mX23_isFirst).desc).map (fun d => d.parameters.length) = some 2) := ⟨(hb_w1 20 (by decide +kernel)), by decide +kernel⟩
theorem ci_mX23_isFirst : Cond.instanceMethod (ab_my mX23_isFirst) ∈ hb_TB := (hb_w9 120 (by decide +kernel))
theorem cs_mX23_isFirst : Cond.selects (ab_my mX23_isFirst).cls (ab_my mX23_isFirst) (ab_my mX23_isFirst) ∈ hb_TB := (hb_w0 103 (by decide +kernel))
theorem ca_mX23_isHere : Cond.initialized (ab_my mX23_isHere).cls ∈ hb_TB ∧ ((ab_my mX23_isHere).cls ≠ "java/lang/invoke/MethodHandle" ∧ (ab_my mX23_isHere).cls ≠ "java/lang/invoke/VarHandle" ∧ (parseMethodDescriptor (ab_my mX23_isHere).desc).map (fun d => d.parameters.length) = some 1) := ⟨(hb_w1 20 (by decide +kernel)), by decide +kernel⟩
theorem ci_mX23_isHere : Cond.instanceMethod (ab_my mX23_isHere) ∈ hb_TB := (hb_w11 56 (by decide +kernel))
theorem cs_mX23_isHere : Cond.selects (ab_my mX23_isHere).cls (ab_my mX23_isHere) (ab_my mX23_isHere) ∈ hb_TB := (hb_w0 113 (by decide +kernel))
theorem ca_mX23_isLetter : Cond.initialized (ab_my mX23_isLetter).cls ∈ hb_TB ∧ ((ab_my mX23_isLetter).cls ≠ "java/lang/invoke/MethodHandle" ∧ (ab_my mX23_isLetter).cls ≠ "java/lang/invoke/VarHandle" ∧ (parseMethodDescriptor (ab_my mX23_isLetter).desc).map (fun d => d.parameters.length) = some 1) := ⟨(hb_w1 20 (by decide +kernel)), by decide +kernel⟩
theorem ct_mX23_isLetter : Cond.static (ab_my mX23_isLetter) ∈ hb_TB := (hb_w11 44 (by decide +kernel))
theorem ca_mX23_isDigit : Cond.initialized (ab_my mX23_isDigit).cls ∈ hb_TB ∧ ((ab_my mX23_isDigit).cls ≠ "java/lang/invoke/MethodHandle" ∧ (ab_my mX23_isDigit).cls ≠ "java/lang/invoke/VarHandle" ∧ (parseMethodDescriptor (ab_my mX23_isDigit).desc).map (fun d => d.parameters.length) = some 1) := ⟨(hb_w1 20 (by decide +kernel)), by decide +kernel⟩
theorem ct_mX23_isDigit : Cond.static (ab_my mX23_isDigit) ∈ hb_TB := (hb_w11 47 (by decide +kernel))
theorem ca_mX23_word : Cond.initialized (ab_my mX23_word).cls ∈ hb_TB ∧ ((ab_my mX23_word).cls ≠ "java/lang/invoke/MethodHandle" ∧ (ab_my mX23_word).cls ≠ "java/lang/invoke/VarHandle" ∧ (parseMethodDescriptor (ab_my mX23_word).desc).map (fun d => d.parameters.length) = some 0) := ⟨(hb_w1 20 (by decide +kernel)), by decide +kernel⟩
theorem ci_mX23_word : Cond.instanceMethod (ab_my mX23_word) ∈ hb_TB := (hb_w11 51 (by decide +kernel))
theorem cs_mX23_word : Cond.selects (ab_my mX23_word).cls (ab_my mX23_word) (ab_my mX23_word) ∈ hb_TB := (hb_w0 112 (by decide +kernel))
theorem ca_mX22_init : Cond.initialized (ab_my mX22_init).cls ∈ hb_TB ∧ ((ab_my mX22_init).cls ≠ "java/lang/invoke/MethodHandle" ∧ (ab_my mX22_init).cls ≠ "java/lang/invoke/VarHandle" ∧ (parseMethodDescriptor (ab_my mX22_init).desc).map (fun d => d.parameters.length) = some 1) := ⟨(hb_w1 40 (by decide +kernel)), by decide +kernel⟩
theorem ci_mX22_init : Cond.instanceMethod (ab_my mX22_init) ∈ hb_TB := (hb_w11 136 (by decide +kernel))
theorem ca_mJ0_equals_9ea2d : Cond.initialized (ab_my mJ0_equals_9ea2d).cls ∈ hb_TB ∧ ((ab_my mJ0_equals_9ea2d).cls ≠ "java/lang/invoke/MethodHandle" ∧ (ab_my mJ0_equals_9ea2d).cls ≠ "java/lang/invoke/VarHandle" ∧ (parseMethodDescriptor (ab_my mJ0_equals_9ea2d).desc).map (fun d => d.parameters.length) = some 1) := ⟨(hb_w1 7 (by decide +kernel)), by decide +kernel⟩
theorem ci_mJ0_equals_9ea2d : Cond.instanceMethod (ab_my mJ0_equals_9ea2d) ∈ hb_TB := (hb_w11 108 (by decide +kernel))
theorem cs_mJ0_equals_9ea2d : Cond.selects (ab_my mJ0_equals_9ea2d).cls (ab_my mJ0_equals_9ea2d) (ab_my mJ0_equals_9ea2d) ∈ hb_TB := (hb_w11 109 (by decide +kernel))
theorem ca_mX23_is : Cond.initialized (ab_my mX23_is).cls ∈ hb_TB ∧ ((ab_my mX23_is).cls ≠ "java/lang/invoke/MethodHandle" ∧ (ab_my mX23_is).cls ≠ "java/lang/invoke/VarHandle" ∧ (parseMethodDescriptor (ab_my mX23_is).desc).map (fun d => d.parameters.length) = some 1) := ⟨(hb_w1 20 (by decide +kernel)), by decide +kernel⟩
theorem ci_mX23_is : Cond.instanceMethod (ab_my mX23_is) ∈ hb_TB := (hb_w11 179 (by decide +kernel))
theorem cs_mX23_is : Cond.selects (ab_my mX23_is).cls (ab_my mX23_is) (ab_my mX23_is) ∈ hb_TB := (hb_w0 125 (by decide +kernel))
theorem ca_mX23_no : Cond.initialized (ab_my mX23_no).cls ∈ hb_TB ∧ ((ab_my mX23_no).cls ≠ "java/lang/invoke/MethodHandle" ∧ (ab_my mX23_no).cls ≠ "java/lang/invoke/VarHandle" ∧ (parseMethodDescriptor (ab_my mX23_no).desc).map (fun d => d.parameters.length) = some 0) := ⟨(hb_w1 20 (by decide +kernel)), by decide +kernel⟩
theorem ci_mX23_no : Cond.instanceMethod (ab_my mX23_no) ∈ hb_TB := (hb_w11 125 (by decide +kernel))
theorem cs_mX23_no : Cond.selects (ab_my mX23_no).cls (ab_my mX23_no) (ab_my mX23_no) ∈ hb_TB := (hb_w0 118 (by decide +kernel))
theorem ca_mX23_next : Cond.initialized (ab_my mX23_next).cls ∈ hb_TB ∧ ((ab_my mX23_next).cls ≠ "java/lang/invoke/MethodHandle" ∧ (ab_my mX23_next).cls ≠ "java/lang/invoke/VarHandle" ∧ (parseMethodDescriptor (ab_my mX23_next).desc).map (fun d => d.parameters.length) = some 0) := ⟨(hb_w1 20 (by decide +kernel)), by decide +kernel⟩
theorem ci_mX23_next : Cond.instanceMethod (ab_my mX23_next) ∈ hb_TB := (hb_w11 41 (by decide +kernel))
theorem cs_mX23_next : Cond.selects (ab_my mX23_next).cls (ab_my mX23_next) (ab_my mX23_next) ∈ hb_TB := (hb_w0 111 (by decide +kernel))
theorem ca_mX23_is_ : Cond.initialized (ab_my mX23_is_).cls ∈ hb_TB ∧ ((ab_my mX23_is_).cls ≠ "java/lang/invoke/MethodHandle" ∧ (ab_my mX23_is_).cls ≠ "java/lang/invoke/VarHandle" ∧ (parseMethodDescriptor (ab_my mX23_is_).desc).map (fun d => d.parameters.length) = some 1) := ⟨(hb_w1 20 (by decide +kernel)), by decide +kernel⟩
theorem ci_mX23_is_ : Cond.instanceMethod (ab_my mX23_is_) ∈ hb_TB := (hb_w11 105 (by decide +kernel))
theorem cs_mX23_is_ : Cond.selects (ab_my mX23_is_).cls (ab_my mX23_is_) (ab_my mX23_is_) ∈ hb_TB := (hb_w0 115 (by decide +kernel))
theorem ca_mX23_breaks : Cond.initialized (ab_my mX23_breaks).cls ∈ hb_TB ∧ ((ab_my mX23_breaks).cls ≠ "java/lang/invoke/MethodHandle" ∧ (ab_my mX23_breaks).cls ≠ "java/lang/invoke/VarHandle" ∧ (parseMethodDescriptor (ab_my mX23_breaks).desc).map (fun d => d.parameters.length) = some 2) := ⟨(hb_w1 20 (by decide +kernel)), by decide +kernel⟩
theorem ci_mX23_breaks : Cond.instanceMethod (ab_my mX23_breaks) ∈ hb_TB := (hb_w11 171 (by decide +kernel))
theorem cs_mX23_breaks : Cond.selects (ab_my mX23_breaks).cls (ab_my mX23_breaks) (ab_my mX23_breaks) ∈ hb_TB := (hb_w0 124 (by decide +kernel))
theorem ca_mX23_start : Cond.initialized (ab_my mX23_start).cls ∈ hb_TB ∧ ((ab_my mX23_start).cls ≠ "java/lang/invoke/MethodHandle" ∧ (ab_my mX23_start).cls ≠ "java/lang/invoke/VarHandle" ∧ (parseMethodDescriptor (ab_my mX23_start).desc).map (fun d => d.parameters.length) = some 0) := ⟨(hb_w1 20 (by decide +kernel)), by decide +kernel⟩
theorem ci_mX23_start : Cond.instanceMethod (ab_my mX23_start) ∈ hb_TB := (hb_w11 37 (by decide +kernel))
theorem cs_mX23_start : Cond.selects (ab_my mX23_start).cls (ab_my mX23_start) (ab_my mX23_start) ∈ hb_TB := (hb_w0 110 (by decide +kernel))
theorem ca_mX23_skip : Cond.initialized (ab_my mX23_skip).cls ∈ hb_TB ∧ ((ab_my mX23_skip).cls ≠ "java/lang/invoke/MethodHandle" ∧ (ab_my mX23_skip).cls ≠ "java/lang/invoke/VarHandle" ∧ (parseMethodDescriptor (ab_my mX23_skip).desc).map (fun d => d.parameters.length) = some 1) := ⟨(hb_w1 20 (by decide +kernel)), by decide +kernel⟩
theorem ci_mX23_skip : Cond.instanceMethod (ab_my mX23_skip) ∈ hb_TB := (hb_w11 101 (by decide +kernel))
theorem cs_mX23_skip : Cond.selects (ab_my mX23_skip).cls (ab_my mX23_skip) (ab_my mX23_skip) ∈ hb_TB := (hb_w0 114 (by decide +kernel))
theorem ca_mX23_kind : Cond.initialized (ab_my mX23_kind).cls ∈ hb_TB ∧ ((ab_my mX23_kind).cls ≠ "java/lang/invoke/MethodHandle" ∧ (ab_my mX23_kind).cls ≠ "java/lang/invoke/VarHandle" ∧ (parseMethodDescriptor (ab_my mX23_kind).desc).map (fun d => d.parameters.length) = some 0) := ⟨(hb_w1 20 (by decide +kernel)), by decide +kernel⟩
theorem ci_mX23_kind : Cond.instanceMethod (ab_my mX23_kind) ∈ hb_TB := (hb_w11 117 (by decide +kernel))
theorem cs_mX23_kind : Cond.selects (ab_my mX23_kind).cls (ab_my mX23_kind) (ab_my mX23_kind) ∈ hb_TB := (hb_w0 116 (by decide +kernel))
theorem ca_mX23_call : Cond.initialized (ab_my mX23_call).cls ∈ hb_TB ∧ ((ab_my mX23_call).cls ≠ "java/lang/invoke/MethodHandle" ∧ (ab_my mX23_call).cls ≠ "java/lang/invoke/VarHandle" ∧ (parseMethodDescriptor (ab_my mX23_call).desc).map (fun d => d.parameters.length) = some 0) := ⟨(hb_w1 20 (by decide +kernel)), by decide +kernel⟩
theorem ci_mX23_call : Cond.instanceMethod (ab_my mX23_call) ∈ hb_TB := (hb_w11 187 (by decide +kernel))
theorem cs_mX23_call : Cond.selects (ab_my mX23_call).cls (ab_my mX23_call) (ab_my mX23_call) ∈ hb_TB := (hb_w0 127 (by decide +kernel))
theorem ca_mX23_layer : Cond.initialized (ab_my mX23_layer).cls ∈ hb_TB ∧ ((ab_my mX23_layer).cls ≠ "java/lang/invoke/MethodHandle" ∧ (ab_my mX23_layer).cls ≠ "java/lang/invoke/VarHandle" ∧ (parseMethodDescriptor (ab_my mX23_layer).desc).map (fun d => d.parameters.length) = some 0) := ⟨(hb_w1 20 (by decide +kernel)), by decide +kernel⟩
theorem ci_mX23_layer : Cond.instanceMethod (ab_my mX23_layer) ∈ hb_TB := (hb_w11 191 (by decide +kernel))
theorem cs_mX23_layer : Cond.selects (ab_my mX23_layer).cls (ab_my mX23_layer) (ab_my mX23_layer) ∈ hb_TB := (hb_w0 128 (by decide +kernel))
theorem ca_mX23_method : Cond.initialized (ab_my mX23_method).cls ∈ hb_TB ∧ ((ab_my mX23_method).cls ≠ "java/lang/invoke/MethodHandle" ∧ (ab_my mX23_method).cls ≠ "java/lang/invoke/VarHandle" ∧ (parseMethodDescriptor (ab_my mX23_method).desc).map (fun d => d.parameters.length) = some 0) := ⟨(hb_w1 20 (by decide +kernel)), by decide +kernel⟩
theorem ci_mX23_method : Cond.instanceMethod (ab_my mX23_method) ∈ hb_TB := (hb_w11 195 (by decide +kernel))
theorem cs_mX23_method : Cond.selects (ab_my mX23_method).cls (ab_my mX23_method) (ab_my mX23_method) ∈ hb_TB := (hb_w0 129 (by decide +kernel))
theorem ca_mX23_name : Cond.initialized (ab_my mX23_name).cls ∈ hb_TB ∧ ((ab_my mX23_name).cls ≠ "java/lang/invoke/MethodHandle" ∧ (ab_my mX23_name).cls ≠ "java/lang/invoke/VarHandle" ∧ (parseMethodDescriptor (ab_my mX23_name).desc).map (fun d => d.parameters.length) = some 0) := ⟨(hb_w1 20 (by decide +kernel)), by decide +kernel⟩
theorem ci_mX23_name : Cond.instanceMethod (ab_my mX23_name) ∈ hb_TB := (hb_w11 121 (by decide +kernel))
theorem cs_mX23_name : Cond.selects (ab_my mX23_name).cls (ab_my mX23_name) (ab_my mX23_name) ∈ hb_TB := (hb_w0 117 (by decide +kernel))
theorem ca_mX23_isTold : Cond.initialized (ab_my mX23_isTold).cls ∈ hb_TB ∧ ((ab_my mX23_isTold).cls ≠ "java/lang/invoke/MethodHandle" ∧ (ab_my mX23_isTold).cls ≠ "java/lang/invoke/VarHandle" ∧ (parseMethodDescriptor (ab_my mX23_isTold).desc).map (fun d => d.parameters.length) = some 1) := ⟨(hb_w1 20 (by decide +kernel)), by decide +kernel⟩
theorem ci_mX23_isTold : Cond.instanceMethod (ab_my mX23_isTold) ∈ hb_TB := (hb_w11 147 (by decide +kernel))
theorem cs_mX23_isTold : Cond.selects (ab_my mX23_isTold).cls (ab_my mX23_isTold) (ab_my mX23_isTold) ∈ hb_TB := (hb_w0 119 (by decide +kernel))
theorem ca_mX19_be : Cond.initialized (ab_my mX19_be).cls ∈ hb_TB ∧ ((ab_my mX19_be).cls ≠ "java/lang/invoke/MethodHandle" ∧ (ab_my mX19_be).cls ≠ "java/lang/invoke/VarHandle" ∧ (parseMethodDescriptor (ab_my mX19_be).desc).map (fun d => d.parameters.length) = some 3) := ⟨(hb_w1 26 (by decide +kernel)), by decide +kernel⟩
theorem ci_mX19_be : Cond.instanceMethod (ab_my mX19_be) ∈ hb_TB := (hb_w11 174 (by decide +kernel))
theorem cs_mX19_be : Cond.selects (ab_my mX19_be).cls (ab_my mX19_be) (ab_my mX19_be) ∈ hb_TB := (hb_w11 175 (by decide +kernel))
theorem ca_mX23_want : Cond.initialized (ab_my mX23_want).cls ∈ hb_TB ∧ ((ab_my mX23_want).cls ≠ "java/lang/invoke/MethodHandle" ∧ (ab_my mX23_want).cls ≠ "java/lang/invoke/VarHandle" ∧ (parseMethodDescriptor (ab_my mX23_want).desc).map (fun d => d.parameters.length) = some 1) := ⟨(hb_w1 20 (by decide +kernel)), by decide +kernel⟩
theorem ci_mX23_want : Cond.instanceMethod (ab_my mX23_want) ∈ hb_TB := (hb_w11 183 (by decide +kernel))
theorem cs_mX23_want : Cond.selects (ab_my mX23_want).cls (ab_my mX23_want) (ab_my mX23_want) ∈ hb_TB := (hb_w0 126 (by decide +kernel))
theorem ca_mX23_makeRows : Cond.initialized (ab_my mX23_makeRows).cls ∈ hb_TB ∧ ((ab_my mX23_makeRows).cls ≠ "java/lang/invoke/MethodHandle" ∧ (ab_my mX23_makeRows).cls ≠ "java/lang/invoke/VarHandle" ∧ (parseMethodDescriptor (ab_my mX23_makeRows).desc).map (fun d => d.parameters.length) = some 1) := ⟨(hb_w1 20 (by decide +kernel)), by decide +kernel⟩
theorem ci_mX23_makeRows : Cond.instanceMethod (ab_my mX23_makeRows) ∈ hb_TB := (hb_w9 112 (by decide +kernel))
theorem cs_mX23_makeRows : Cond.selects (ab_my mX23_makeRows).cls (ab_my mX23_makeRows) (ab_my mX23_makeRows) ∈ hb_TB := (hb_w0 101 (by decide +kernel))
theorem ca_mX23_specs : Cond.initialized (ab_my mX23_specs).cls ∈ hb_TB ∧ ((ab_my mX23_specs).cls ≠ "java/lang/invoke/MethodHandle" ∧ (ab_my mX23_specs).cls ≠ "java/lang/invoke/VarHandle" ∧ (parseMethodDescriptor (ab_my mX23_specs).desc).map (fun d => d.parameters.length) = some 2) := ⟨(hb_w1 20 (by decide +kernel)), by decide +kernel⟩
theorem ci_mX23_specs : Cond.instanceMethod (ab_my mX23_specs) ∈ hb_TB := (hb_w11 199 (by decide +kernel))
theorem cs_mX23_specs : Cond.selects (ab_my mX23_specs).cls (ab_my mX23_specs) (ab_my mX23_specs) ∈ hb_TB := (hb_w0 130 (by decide +kernel))
theorem ca_mX23_test : Cond.initialized (ab_my mX23_test).cls ∈ hb_TB ∧ ((ab_my mX23_test).cls ≠ "java/lang/invoke/MethodHandle" ∧ (ab_my mX23_test).cls ≠ "java/lang/invoke/VarHandle" ∧ (parseMethodDescriptor (ab_my mX23_test).desc).map (fun d => d.parameters.length) = some 0) := ⟨(hb_w1 20 (by decide +kernel)), by decide +kernel⟩
theorem ci_mX23_test : Cond.instanceMethod (ab_my mX23_test) ∈ hb_TB := (hb_w11 211 (by decide +kernel))
theorem cs_mX23_test : Cond.selects (ab_my mX23_test).cls (ab_my mX23_test) (ab_my mX23_test) ∈ hb_TB := (hb_w0 133 (by decide +kernel))
theorem ca_mX23_e : Cond.initialized (ab_my mX23_e).cls ∈ hb_TB ∧ ((ab_my mX23_e).cls ≠ "java/lang/invoke/MethodHandle" ∧ (ab_my mX23_e).cls ≠ "java/lang/invoke/VarHandle" ∧ (parseMethodDescriptor (ab_my mX23_e).desc).map (fun d => d.parameters.length) = some 0) := ⟨(hb_w1 20 (by decide +kernel)), by decide +kernel⟩
theorem ci_mX23_e : Cond.instanceMethod (ab_my mX23_e) ∈ hb_TB := (hb_w12 153 (by decide +kernel))
theorem cs_mX23_e : Cond.selects (ab_my mX23_e).cls (ab_my mX23_e) (ab_my mX23_e) ∈ hb_TB := (hb_w0 145 (by decide +kernel))
theorem ca_mX23_isThere : Cond.initialized (ab_my mX23_isThere).cls ∈ hb_TB ∧ ((ab_my mX23_isThere).cls ≠ "java/lang/invoke/MethodHandle" ∧ (ab_my mX23_isThere).cls ≠ "java/lang/invoke/VarHandle" ∧ (parseMethodDescriptor (ab_my mX23_isThere).desc).map (fun d => d.parameters.length) = some 1) := ⟨(hb_w1 20 (by decide +kernel)), by decide +kernel⟩
theorem ci_mX23_isThere : Cond.instanceMethod (ab_my mX23_isThere) ∈ hb_TB := (hb_w12 189 (by decide +kernel))
theorem cs_mX23_isThere : Cond.selects (ab_my mX23_isThere).cls (ab_my mX23_isThere) (ab_my mX23_isThere) ∈ hb_TB := (hb_w0 154 (by decide +kernel))
theorem ca_mX23_isSame : Cond.initialized (ab_my mX23_isSame).cls ∈ hb_TB ∧ ((ab_my mX23_isSame).cls ≠ "java/lang/invoke/MethodHandle" ∧ (ab_my mX23_isSame).cls ≠ "java/lang/invoke/VarHandle" ∧ (parseMethodDescriptor (ab_my mX23_isSame).desc).map (fun d => d.parameters.length) = some 2) := ⟨(hb_w1 20 (by decide +kernel)), by decide +kernel⟩
theorem ci_mX23_isSame : Cond.instanceMethod (ab_my mX23_isSame) ∈ hb_TB := (hb_w11 203 (by decide +kernel))
theorem cs_mX23_isSame : Cond.selects (ab_my mX23_isSame).cls (ab_my mX23_isSame) (ab_my mX23_isSame) ∈ hb_TB := (hb_w0 131 (by decide +kernel))
theorem ca_mX23_signed : Cond.initialized (ab_my mX23_signed).cls ∈ hb_TB ∧ ((ab_my mX23_signed).cls ≠ "java/lang/invoke/MethodHandle" ∧ (ab_my mX23_signed).cls ≠ "java/lang/invoke/VarHandle" ∧ (parseMethodDescriptor (ab_my mX23_signed).desc).map (fun d => d.parameters.length) = some 0) := ⟨(hb_w1 20 (by decide +kernel)), by decide +kernel⟩
theorem ci_mX23_signed : Cond.instanceMethod (ab_my mX23_signed) ∈ hb_TB := (hb_w11 207 (by decide +kernel))
theorem cs_mX23_signed : Cond.selects (ab_my mX23_signed).cls (ab_my mX23_signed) (ab_my mX23_signed) ∈ hb_TB := (hb_w0 132 (by decide +kernel))
theorem ca_mX23_conjunction : Cond.initialized (ab_my mX23_conjunction).cls ∈ hb_TB ∧ ((ab_my mX23_conjunction).cls ≠ "java/lang/invoke/MethodHandle" ∧ (ab_my mX23_conjunction).cls ≠ "java/lang/invoke/VarHandle" ∧ (parseMethodDescriptor (ab_my mX23_conjunction).desc).map (fun d => d.parameters.length) = some 0) := ⟨(hb_w1 20 (by decide +kernel)), by decide +kernel⟩
theorem ci_mX23_conjunction : Cond.instanceMethod (ab_my mX23_conjunction) ∈ hb_TB := (hb_w11 215 (by decide +kernel))
theorem cs_mX23_conjunction : Cond.selects (ab_my mX23_conjunction).cls (ab_my mX23_conjunction) (ab_my mX23_conjunction) ∈ hb_TB := (hb_w0 134 (by decide +kernel))
theorem ca_mX23_two : Cond.initialized (ab_my mX23_two).cls ∈ hb_TB ∧ ((ab_my mX23_two).cls ≠ "java/lang/invoke/MethodHandle" ∧ (ab_my mX23_two).cls ≠ "java/lang/invoke/VarHandle" ∧ (parseMethodDescriptor (ab_my mX23_two).desc).map (fun d => d.parameters.length) = some 3) := ⟨(hb_w1 20 (by decide +kernel)), by decide +kernel⟩
theorem ci_mX23_two : Cond.instanceMethod (ab_my mX23_two) ∈ hb_TB := (hb_w12 149 (by decide +kernel))
theorem cs_mX23_two : Cond.selects (ab_my mX23_two).cls (ab_my mX23_two) (ab_my mX23_two) ∈ hb_TB := (hb_w0 144 (by decide +kernel))
theorem ca_mX21_get : Cond.initialized (ab_my mX21_get).cls ∈ hb_TB ∧ ((ab_my mX21_get).cls ≠ "java/lang/invoke/MethodHandle" ∧ (ab_my mX21_get).cls ≠ "java/lang/invoke/VarHandle" ∧ (parseMethodDescriptor (ab_my mX21_get).desc).map (fun d => d.parameters.length) = some 1) := ⟨(hb_w1 21 (by decide +kernel)), by decide +kernel⟩
theorem ci_mX21_get : Cond.instanceMethod (ab_my mX21_get) ∈ hb_TB := (hb_w11 226 (by decide +kernel))
theorem cs_mX21_get : Cond.selects (ab_my mX21_get).cls (ab_my mX21_get) (ab_my mX21_get) ∈ hb_TB := (hb_w11 227 (by decide +kernel))
theorem ca_mX23_single : Cond.initialized (ab_my mX23_single).cls ∈ hb_TB ∧ ((ab_my mX23_single).cls ≠ "java/lang/invoke/MethodHandle" ∧ (ab_my mX23_single).cls ≠ "java/lang/invoke/VarHandle" ∧ (parseMethodDescriptor (ab_my mX23_single).desc).map (fun d => d.parameters.length) = some 0) := ⟨(hb_w1 20 (by decide +kernel)), by decide +kernel⟩
theorem ci_mX23_single : Cond.instanceMethod (ab_my mX23_single) ∈ hb_TB := (hb_w11 219 (by decide +kernel))
theorem cs_mX23_single : Cond.selects (ab_my mX23_single).cls (ab_my mX23_single) (ab_my mX23_single) ∈ hb_TB := (hb_w0 135 (by decide +kernel))
theorem ca_mX23_into : Cond.initialized (ab_my mX23_into).cls ∈ hb_TB ∧ ((ab_my mX23_into).cls ≠ "java/lang/invoke/MethodHandle" ∧ (ab_my mX23_into).cls ≠ "java/lang/invoke/VarHandle" ∧ (parseMethodDescriptor (ab_my mX23_into).desc).map (fun d => d.parameters.length) = some 0) := ⟨(hb_w1 20 (by decide +kernel)), by decide +kernel⟩
theorem ci_mX23_into : Cond.instanceMethod (ab_my mX23_into) ∈ hb_TB := (hb_w11 223 (by decide +kernel))
theorem cs_mX23_into : Cond.selects (ab_my mX23_into).cls (ab_my mX23_into) (ab_my mX23_into) ∈ hb_TB := (hb_w0 136 (by decide +kernel))
theorem ca_mX23_comparison : Cond.initialized (ab_my mX23_comparison).cls ∈ hb_TB ∧ ((ab_my mX23_comparison).cls ≠ "java/lang/invoke/MethodHandle" ∧ (ab_my mX23_comparison).cls ≠ "java/lang/invoke/VarHandle" ∧ (parseMethodDescriptor (ab_my mX23_comparison).desc).map (fun d => d.parameters.length) = some 0) := ⟨(hb_w1 20 (by decide +kernel)), by decide +kernel⟩
theorem ci_mX23_comparison : Cond.instanceMethod (ab_my mX23_comparison) ∈ hb_TB := (hb_w12 133 (by decide +kernel))
theorem cs_mX23_comparison : Cond.selects (ab_my mX23_comparison).cls (ab_my mX23_comparison) (ab_my mX23_comparison) ∈ hb_TB := (hb_w0 140 (by decide +kernel))
theorem ca_mX23_spec : Cond.initialized (ab_my mX23_spec).cls ∈ hb_TB ∧ ((ab_my mX23_spec).cls ≠ "java/lang/invoke/MethodHandle" ∧ (ab_my mX23_spec).cls ≠ "java/lang/invoke/VarHandle" ∧ (parseMethodDescriptor (ab_my mX23_spec).desc).map (fun d => d.parameters.length) = some 2) := ⟨(hb_w1 20 (by decide +kernel)), by decide +kernel⟩
theorem ci_mX23_spec : Cond.instanceMethod (ab_my mX23_spec) ∈ hb_TB := (hb_w12 137 (by decide +kernel))
theorem cs_mX23_spec : Cond.selects (ab_my mX23_spec).cls (ab_my mX23_spec) (ab_my mX23_spec) ∈ hb_TB := (hb_w0 141 (by decide +kernel))
theorem ca_mX23_counts : Cond.initialized (ab_my mX23_counts).cls ∈ hb_TB ∧ ((ab_my mX23_counts).cls ≠ "java/lang/invoke/MethodHandle" ∧ (ab_my mX23_counts).cls ≠ "java/lang/invoke/VarHandle" ∧ (parseMethodDescriptor (ab_my mX23_counts).desc).map (fun d => d.parameters.length) = some 1) := ⟨(hb_w1 20 (by decide +kernel)), by decide +kernel⟩
theorem ci_mX23_counts : Cond.instanceMethod (ab_my mX23_counts) ∈ hb_TB := (hb_w12 141 (by decide +kernel))
theorem cs_mX23_counts : Cond.selects (ab_my mX23_counts).cls (ab_my mX23_counts) (ab_my mX23_counts) ∈ hb_TB := (hb_w0 142 (by decide +kernel))
theorem ca_mX23_behind : Cond.initialized (ab_my mX23_behind).cls ∈ hb_TB ∧ ((ab_my mX23_behind).cls ≠ "java/lang/invoke/MethodHandle" ∧ (ab_my mX23_behind).cls ≠ "java/lang/invoke/VarHandle" ∧ (parseMethodDescriptor (ab_my mX23_behind).desc).map (fun d => d.parameters.length) = some 0) := ⟨(hb_w1 20 (by decide +kernel)), by decide +kernel⟩
theorem ci_mX23_behind : Cond.instanceMethod (ab_my mX23_behind) ∈ hb_TB := (hb_w12 145 (by decide +kernel))
theorem cs_mX23_behind : Cond.selects (ab_my mX23_behind).cls (ab_my mX23_behind) (ab_my mX23_behind) ∈ hb_TB := (hb_w0 143 (by decide +kernel))
theorem ca_mX23_counted : Cond.initialized (ab_my mX23_counted).cls ∈ hb_TB ∧ ((ab_my mX23_counted).cls ≠ "java/lang/invoke/MethodHandle" ∧ (ab_my mX23_counted).cls ≠ "java/lang/invoke/VarHandle" ∧ (parseMethodDescriptor (ab_my mX23_counted).desc).map (fun d => d.parameters.length) = some 1) := ⟨(hb_w1 20 (by decide +kernel)), by decide +kernel⟩
theorem ci_mX23_counted : Cond.instanceMethod (ab_my mX23_counted) ∈ hb_TB := (hb_w12 157 (by decide +kernel))
theorem cs_mX23_counted : Cond.selects (ab_my mX23_counted).cls (ab_my mX23_counted) (ab_my mX23_counted) ∈ hb_TB := (hb_w0 146 (by decide +kernel))
theorem ca_mX23_want_ : Cond.initialized (ab_my mX23_want_).cls ∈ hb_TB ∧ ((ab_my mX23_want_).cls ≠ "java/lang/invoke/MethodHandle" ∧ (ab_my mX23_want_).cls ≠ "java/lang/invoke/VarHandle" ∧ (parseMethodDescriptor (ab_my mX23_want_).desc).map (fun d => d.parameters.length) = some 1) := ⟨(hb_w1 20 (by decide +kernel)), by decide +kernel⟩
theorem ci_mX23_want_ : Cond.instanceMethod (ab_my mX23_want_) ∈ hb_TB := (hb_w12 161 (by decide +kernel))
theorem cs_mX23_want_ : Cond.selects (ab_my mX23_want_).cls (ab_my mX23_want_) (ab_my mX23_want_) ∈ hb_TB := (hb_w0 147 (by decide +kernel))
theorem ca_mX23_under : Cond.initialized (ab_my mX23_under).cls ∈ hb_TB ∧ ((ab_my mX23_under).cls ≠ "java/lang/invoke/MethodHandle" ∧ (ab_my mX23_under).cls ≠ "java/lang/invoke/VarHandle" ∧ (parseMethodDescriptor (ab_my mX23_under).desc).map (fun d => d.parameters.length) = some 2) := ⟨(hb_w1 20 (by decide +kernel)), by decide +kernel⟩
theorem ci_mX23_under : Cond.instanceMethod (ab_my mX23_under) ∈ hb_TB := (hb_w12 165 (by decide +kernel))
theorem cs_mX23_under : Cond.selects (ab_my mX23_under).cls (ab_my mX23_under) (ab_my mX23_under) ∈ hb_TB := (hb_w0 148 (by decide +kernel))
theorem ca_mX23_compared : Cond.initialized (ab_my mX23_compared).cls ∈ hb_TB ∧ ((ab_my mX23_compared).cls ≠ "java/lang/invoke/MethodHandle" ∧ (ab_my mX23_compared).cls ≠ "java/lang/invoke/VarHandle" ∧ (parseMethodDescriptor (ab_my mX23_compared).desc).map (fun d => d.parameters.length) = some 0) := ⟨(hb_w1 20 (by decide +kernel)), by decide +kernel⟩
theorem ci_mX23_compared : Cond.instanceMethod (ab_my mX23_compared) ∈ hb_TB := (hb_w12 169 (by decide +kernel))
theorem cs_mX23_compared : Cond.selects (ab_my mX23_compared).cls (ab_my mX23_compared) (ab_my mX23_compared) ∈ hb_TB := (hb_w0 149 (by decide +kernel))
theorem ca_mX23_chain : Cond.initialized (ab_my mX23_chain).cls ∈ hb_TB ∧ ((ab_my mX23_chain).cls ≠ "java/lang/invoke/MethodHandle" ∧ (ab_my mX23_chain).cls ≠ "java/lang/invoke/VarHandle" ∧ (parseMethodDescriptor (ab_my mX23_chain).desc).map (fun d => d.parameters.length) = some 1) := ⟨(hb_w1 20 (by decide +kernel)), by decide +kernel⟩
theorem ci_mX23_chain : Cond.instanceMethod (ab_my mX23_chain) ∈ hb_TB := (hb_w12 173 (by decide +kernel))
theorem cs_mX23_chain : Cond.selects (ab_my mX23_chain).cls (ab_my mX23_chain) (ab_my mX23_chain) ∈ hb_TB := (hb_w0 150 (by decide +kernel))
theorem ca_mX23_p : Cond.initialized (ab_my mX23_p).cls ∈ hb_TB ∧ ((ab_my mX23_p).cls ≠ "java/lang/invoke/MethodHandle" ∧ (ab_my mX23_p).cls ≠ "java/lang/invoke/VarHandle" ∧ (parseMethodDescriptor (ab_my mX23_p).desc).map (fun d => d.parameters.length) = some 0) := ⟨(hb_w1 20 (by decide +kernel)), by decide +kernel⟩
theorem ci_mX23_p : Cond.instanceMethod (ab_my mX23_p) ∈ hb_TB := (hb_w12 177 (by decide +kernel))
theorem cs_mX23_p : Cond.selects (ab_my mX23_p).cls (ab_my mX23_p) (ab_my mX23_p) ∈ hb_TB := (hb_w0 151 (by decide +kernel))
theorem ca_mX23_named : Cond.initialized (ab_my mX23_named).cls ∈ hb_TB ∧ ((ab_my mX23_named).cls ≠ "java/lang/invoke/MethodHandle" ∧ (ab_my mX23_named).cls ≠ "java/lang/invoke/VarHandle" ∧ (parseMethodDescriptor (ab_my mX23_named).desc).map (fun d => d.parameters.length) = some 1) := ⟨(hb_w1 20 (by decide +kernel)), by decide +kernel⟩
theorem ci_mX23_named : Cond.instanceMethod (ab_my mX23_named) ∈ hb_TB := (hb_w12 181 (by decide +kernel))
theorem cs_mX23_named : Cond.selects (ab_my mX23_named).cls (ab_my mX23_named) (ab_my mX23_named) ∈ hb_TB := (hb_w0 152 (by decide +kernel))
theorem ca_mX23_arguments : Cond.initialized (ab_my mX23_arguments).cls ∈ hb_TB ∧ ((ab_my mX23_arguments).cls ≠ "java/lang/invoke/MethodHandle" ∧ (ab_my mX23_arguments).cls ≠ "java/lang/invoke/VarHandle" ∧ (parseMethodDescriptor (ab_my mX23_arguments).desc).map (fun d => d.parameters.length) = some 2) := ⟨(hb_w1 20 (by decide +kernel)), by decide +kernel⟩
theorem ci_mX23_arguments : Cond.instanceMethod (ab_my mX23_arguments) ∈ hb_TB := (hb_w12 185 (by decide +kernel))
theorem cs_mX23_arguments : Cond.selects (ab_my mX23_arguments).cls (ab_my mX23_arguments) (ab_my mX23_arguments) ∈ hb_TB := (hb_w0 153 (by decide +kernel))
theorem ca_mX23_isBelow : Cond.initialized (ab_my mX23_isBelow).cls ∈ hb_TB ∧ ((ab_my mX23_isBelow).cls ≠ "java/lang/invoke/MethodHandle" ∧ (ab_my mX23_isBelow).cls ≠ "java/lang/invoke/VarHandle" ∧ (parseMethodDescriptor (ab_my mX23_isBelow).desc).map (fun d => d.parameters.length) = some 2) := ⟨(hb_w1 20 (by decide +kernel)), by decide +kernel⟩
theorem ci_mX23_isBelow : Cond.instanceMethod (ab_my mX23_isBelow) ∈ hb_TB := (hb_w9 130 (by decide +kernel))
theorem cs_mX23_isBelow : Cond.selects (ab_my mX23_isBelow).cls (ab_my mX23_isBelow) (ab_my mX23_isBelow) ∈ hb_TB := (hb_w0 105 (by decide +kernel))
theorem ca_mX23_forget : Cond.initialized (ab_my mX23_forget).cls ∈ hb_TB ∧ ((ab_my mX23_forget).cls ≠ "java/lang/invoke/MethodHandle" ∧ (ab_my mX23_forget).cls ≠ "java/lang/invoke/VarHandle" ∧ (parseMethodDescriptor (ab_my mX23_forget).desc).map (fun d => d.parameters.length) = some 0) := ⟨(hb_w1 20 (by decide +kernel)), by decide +kernel⟩
theorem ci_mX23_forget : Cond.instanceMethod (ab_my mX23_forget) ∈ hb_TB := (hb_w9 138 (by decide +kernel))
theorem cs_mX23_forget : Cond.selects (ab_my mX23_forget).cls (ab_my mX23_forget) (ab_my mX23_forget) ∈ hb_TB := (hb_w0 106 (by decide +kernel))
theorem ca_mX23_atom : Cond.initialized (ab_my mX23_atom).cls ∈ hb_TB ∧ ((ab_my mX23_atom).cls ≠ "java/lang/invoke/MethodHandle" ∧ (ab_my mX23_atom).cls ≠ "java/lang/invoke/VarHandle" ∧ (parseMethodDescriptor (ab_my mX23_atom).desc).map (fun d => d.parameters.length) = some 3) := ⟨(hb_w1 20 (by decide +kernel)), by decide +kernel⟩
theorem ci_mX23_atom : Cond.instanceMethod (ab_my mX23_atom) ∈ hb_TB := (hb_w13 10 (by decide +kernel))
theorem cs_mX23_atom : Cond.selects (ab_my mX23_atom).cls (ab_my mX23_atom) (ab_my mX23_atom) ∈ hb_TB := (hb_w0 161 (by decide +kernel))
theorem ca_mX23_atoms : Cond.initialized (ab_my mX23_atoms).cls ∈ hb_TB ∧ ((ab_my mX23_atoms).cls ≠ "java/lang/invoke/MethodHandle" ∧ (ab_my mX23_atoms).cls ≠ "java/lang/invoke/VarHandle" ∧ (parseMethodDescriptor (ab_my mX23_atoms).desc).map (fun d => d.parameters.length) = some 1) := ⟨(hb_w1 20 (by decide +kernel)), by decide +kernel⟩
theorem ci_mX23_atoms : Cond.instanceMethod (ab_my mX23_atoms) ∈ hb_TB := (hb_w13 14 (by decide +kernel))
theorem cs_mX23_atoms : Cond.selects (ab_my mX23_atoms).cls (ab_my mX23_atoms) (ab_my mX23_atoms) ∈ hb_TB := (hb_w0 162 (by decide +kernel))
theorem ca_mX23_explore : Cond.initialized (ab_my mX23_explore).cls ∈ hb_TB ∧ ((ab_my mX23_explore).cls ≠ "java/lang/invoke/MethodHandle" ∧ (ab_my mX23_explore).cls ≠ "java/lang/invoke/VarHandle" ∧ (parseMethodDescriptor (ab_my mX23_explore).desc).map (fun d => d.parameters.length) = some 1) := ⟨(hb_w1 20 (by decide +kernel)), by decide +kernel⟩
theorem ci_mX23_explore : Cond.instanceMethod (ab_my mX23_explore) ∈ hb_TB := (hb_w13 19 (by decide +kernel))
theorem cs_mX23_explore : Cond.selects (ab_my mX23_explore).cls (ab_my mX23_explore) (ab_my mX23_explore) ∈ hb_TB := (hb_w0 163 (by decide +kernel))
theorem ca_mX23_takes : Cond.initialized (ab_my mX23_takes).cls ∈ hb_TB ∧ ((ab_my mX23_takes).cls ≠ "java/lang/invoke/MethodHandle" ∧ (ab_my mX23_takes).cls ≠ "java/lang/invoke/VarHandle" ∧ (parseMethodDescriptor (ab_my mX23_takes).desc).map (fun d => d.parameters.length) = some 1) := ⟨(hb_w1 20 (by decide +kernel)), by decide +kernel⟩
theorem ci_mX23_takes : Cond.instanceMethod (ab_my mX23_takes) ∈ hb_TB := (hb_w13 23 (by decide +kernel))
theorem cs_mX23_takes : Cond.selects (ab_my mX23_takes).cls (ab_my mX23_takes) (ab_my mX23_takes) ∈ hb_TB := (hb_w0 164 (by decide +kernel))
theorem ca_mJ13_signum_95d88 : Cond.initialized (ab_my mJ13_signum_95d88).cls ∈ hb_TB ∧ ((ab_my mJ13_signum_95d88).cls ≠ "java/lang/invoke/MethodHandle" ∧ (ab_my mJ13_signum_95d88).cls ≠ "java/lang/invoke/VarHandle" ∧ (parseMethodDescriptor (ab_my mJ13_signum_95d88).desc).map (fun d => d.parameters.length) = some 1) := ⟨(hb_w1 44 (by decide +kernel)), by decide +kernel⟩
theorem ct_mJ13_signum_95d88 : Cond.static (ab_my mJ13_signum_95d88) ∈ hb_TB := (hb_w13 36 (by decide +kernel))
theorem ca_mX23_bound : Cond.initialized (ab_my mX23_bound).cls ∈ hb_TB ∧ ((ab_my mX23_bound).cls ≠ "java/lang/invoke/MethodHandle" ∧ (ab_my mX23_bound).cls ≠ "java/lang/invoke/VarHandle" ∧ (parseMethodDescriptor (ab_my mX23_bound).desc).map (fun d => d.parameters.length) = some 4) := ⟨(hb_w1 20 (by decide +kernel)), by decide +kernel⟩
theorem ct_mX23_bound : Cond.static (ab_my mX23_bound) ∈ hb_TB := (hb_w13 39 (by decide +kernel))
theorem ca_mX23_both : Cond.initialized (ab_my mX23_both).cls ∈ hb_TB ∧ ((ab_my mX23_both).cls ≠ "java/lang/invoke/MethodHandle" ∧ (ab_my mX23_both).cls ≠ "java/lang/invoke/VarHandle" ∧ (parseMethodDescriptor (ab_my mX23_both).desc).map (fun d => d.parameters.length) = some 2) := ⟨(hb_w1 20 (by decide +kernel)), by decide +kernel⟩
theorem ct_mX23_both : Cond.static (ab_my mX23_both) ∈ hb_TB := (hb_w13 26 (by decide +kernel))
theorem ca_mX23_holds : Cond.initialized (ab_my mX23_holds).cls ∈ hb_TB ∧ ((ab_my mX23_holds).cls ≠ "java/lang/invoke/MethodHandle" ∧ (ab_my mX23_holds).cls ≠ "java/lang/invoke/VarHandle" ∧ (parseMethodDescriptor (ab_my mX23_holds).desc).map (fun d => d.parameters.length) = some 1) := ⟨(hb_w1 20 (by decide +kernel)), by decide +kernel⟩
theorem ci_mX23_holds : Cond.instanceMethod (ab_my mX23_holds) ∈ hb_TB := (hb_w13 30 (by decide +kernel))
theorem cs_mX23_holds : Cond.selects (ab_my mX23_holds).cls (ab_my mX23_holds) (ab_my mX23_holds) ∈ hb_TB := (hb_w0 165 (by decide +kernel))
theorem ca_mX23_not : Cond.initialized (ab_my mX23_not).cls ∈ hb_TB ∧ ((ab_my mX23_not).cls ≠ "java/lang/invoke/MethodHandle" ∧ (ab_my mX23_not).cls ≠ "java/lang/invoke/VarHandle" ∧ (parseMethodDescriptor (ab_my mX23_not).desc).map (fun d => d.parameters.length) = some 1) := ⟨(hb_w1 20 (by decide +kernel)), by decide +kernel⟩
theorem ct_mX23_not : Cond.static (ab_my mX23_not) ∈ hb_TB := (hb_w13 33 (by decide +kernel))
theorem ca_mX23_reckoned : Cond.initialized (ab_my mX23_reckoned).cls ∈ hb_TB ∧ ((ab_my mX23_reckoned).cls ≠ "java/lang/invoke/MethodHandle" ∧ (ab_my mX23_reckoned).cls ≠ "java/lang/invoke/VarHandle" ∧ (parseMethodDescriptor (ab_my mX23_reckoned).desc).map (fun d => d.parameters.length) = some 4) := ⟨(hb_w1 20 (by decide +kernel)), by decide +kernel⟩
theorem ci_mX23_reckoned : Cond.instanceMethod (ab_my mX23_reckoned) ∈ hb_TB := (hb_w12 238 (by decide +kernel))
theorem cs_mX23_reckoned : Cond.selects (ab_my mX23_reckoned).cls (ab_my mX23_reckoned) (ab_my mX23_reckoned) ∈ hb_TB := (hb_w0 158 (by decide +kernel))
theorem ca_mX23_asksMore : Cond.initialized (ab_my mX23_asksMore).cls ∈ hb_TB ∧ ((ab_my mX23_asksMore).cls ≠ "java/lang/invoke/MethodHandle" ∧ (ab_my mX23_asksMore).cls ≠ "java/lang/invoke/VarHandle" ∧ (parseMethodDescriptor (ab_my mX23_asksMore).desc).map (fun d => d.parameters.length) = some 3) := ⟨(hb_w1 20 (by decide +kernel)), by decide +kernel⟩
theorem ci_mX23_asksMore : Cond.instanceMethod (ab_my mX23_asksMore) ∈ hb_TB := (hb_w13 2 (by decide +kernel))
theorem cs_mX23_asksMore : Cond.selects (ab_my mX23_asksMore).cls (ab_my mX23_asksMore) (ab_my mX23_asksMore) ∈ hb_TB := (hb_w0 159 (by decide +kernel))
theorem ca_mX23_see : Cond.initialized (ab_my mX23_see).cls ∈ hb_TB ∧ ((ab_my mX23_see).cls ≠ "java/lang/invoke/MethodHandle" ∧ (ab_my mX23_see).cls ≠ "java/lang/invoke/VarHandle" ∧ (parseMethodDescriptor (ab_my mX23_see).desc).map (fun d => d.parameters.length) = some 1) := ⟨(hb_w1 20 (by decide +kernel)), by decide +kernel⟩
theorem ci_mX23_see : Cond.instanceMethod (ab_my mX23_see) ∈ hb_TB := (hb_w13 6 (by decide +kernel))
theorem cs_mX23_see : Cond.selects (ab_my mX23_see).cls (ab_my mX23_see) (ab_my mX23_see) ∈ hb_TB := (hb_w0 160 (by decide +kernel))
theorem ca_mX23_isAlike : Cond.initialized (ab_my mX23_isAlike).cls ∈ hb_TB ∧ ((ab_my mX23_isAlike).cls ≠ "java/lang/invoke/MethodHandle" ∧ (ab_my mX23_isAlike).cls ≠ "java/lang/invoke/VarHandle" ∧ (parseMethodDescriptor (ab_my mX23_isAlike).desc).map (fun d => d.parameters.length) = some 4) := ⟨(hb_w1 20 (by decide +kernel)), by decide +kernel⟩
theorem ct_mX23_isAlike : Cond.static (ab_my mX23_isAlike) ∈ hb_TB := (hb_w13 56 (by decide +kernel))
theorem ca_mX23_group : Cond.initialized (ab_my mX23_group).cls ∈ hb_TB ∧ ((ab_my mX23_group).cls ≠ "java/lang/invoke/MethodHandle" ∧ (ab_my mX23_group).cls ≠ "java/lang/invoke/VarHandle" ∧ (parseMethodDescriptor (ab_my mX23_group).desc).map (fun d => d.parameters.length) = some 1) := ⟨(hb_w1 20 (by decide +kernel)), by decide +kernel⟩
theorem ci_mX23_group : Cond.instanceMethod (ab_my mX23_group) ∈ hb_TB := (hb_w13 52 (by decide +kernel))
theorem cs_mX23_group : Cond.selects (ab_my mX23_group).cls (ab_my mX23_group) (ab_my mX23_group) ∈ hb_TB := (hb_w0 167 (by decide +kernel))
theorem ca_mX23_nothingIs : Cond.initialized (ab_my mX23_nothingIs).cls ∈ hb_TB ∧ ((ab_my mX23_nothingIs).cls ≠ "java/lang/invoke/MethodHandle" ∧ (ab_my mX23_nothingIs).cls ≠ "java/lang/invoke/VarHandle" ∧ (parseMethodDescriptor (ab_my mX23_nothingIs).desc).map (fun d => d.parameters.length) = some 0) := ⟨(hb_w1 20 (by decide +kernel)), by decide +kernel⟩
theorem ci_mX23_nothingIs : Cond.instanceMethod (ab_my mX23_nothingIs) ∈ hb_TB := (hb_w13 60 (by decide +kernel))
theorem cs_mX23_nothingIs : Cond.selects (ab_my mX23_nothingIs).cls (ab_my mX23_nothingIs) (ab_my mX23_nothingIs) ∈ hb_TB := (hb_w0 168 (by decide +kernel))
theorem ca_mX23_isNew : Cond.initialized (ab_my mX23_isNew).cls ∈ hb_TB ∧ ((ab_my mX23_isNew).cls ≠ "java/lang/invoke/MethodHandle" ∧ (ab_my mX23_isNew).cls ≠ "java/lang/invoke/VarHandle" ∧ (parseMethodDescriptor (ab_my mX23_isNew).desc).map (fun d => d.parameters.length) = some 2) := ⟨(hb_w1 20 (by decide +kernel)), by decide +kernel⟩
theorem ci_mX23_isNew : Cond.instanceMethod (ab_my mX23_isNew) ∈ hb_TB := (hb_w13 64 (by decide +kernel))
theorem cs_mX23_isNew : Cond.selects (ab_my mX23_isNew).cls (ab_my mX23_isNew) (ab_my mX23_isNew) ∈ hb_TB := (hb_w0 169 (by decide +kernel))
theorem ca_mX23_place : Cond.initialized (ab_my mX23_place).cls ∈ hb_TB ∧ ((ab_my mX23_place).cls ≠ "java/lang/invoke/MethodHandle" ∧ (ab_my mX23_place).cls ≠ "java/lang/invoke/VarHandle" ∧ (parseMethodDescriptor (ab_my mX23_place).desc).map (fun d => d.parameters.length) = some 3) := ⟨(hb_w1 20 (by decide +kernel)), by decide +kernel⟩
theorem ct_mX23_place : Cond.static (ab_my mX23_place) ∈ hb_TB := (hb_w13 90 (by decide +kernel))
theorem ca_mX23_matter : Cond.initialized (ab_my mX23_matter).cls ∈ hb_TB ∧ ((ab_my mX23_matter).cls ≠ "java/lang/invoke/MethodHandle" ∧ (ab_my mX23_matter).cls ≠ "java/lang/invoke/VarHandle" ∧ (parseMethodDescriptor (ab_my mX23_matter).desc).map (fun d => d.parameters.length) = some 3) := ⟨(hb_w1 20 (by decide +kernel)), by decide +kernel⟩
theorem ci_mX23_matter : Cond.instanceMethod (ab_my mX23_matter) ∈ hb_TB := (hb_w13 87 (by decide +kernel))
theorem cs_mX23_matter : Cond.selects (ab_my mX23_matter).cls (ab_my mX23_matter) (ab_my mX23_matter) ∈ hb_TB := (hb_w0 174 (by decide +kernel))
theorem ca_mX23_orderCount : Cond.initialized (ab_my mX23_orderCount).cls ∈ hb_TB ∧ ((ab_my mX23_orderCount).cls ≠ "java/lang/invoke/MethodHandle" ∧ (ab_my mX23_orderCount).cls ≠ "java/lang/invoke/VarHandle" ∧ (parseMethodDescriptor (ab_my mX23_orderCount).desc).map (fun d => d.parameters.length) = some 1) := ⟨(hb_w1 20 (by decide +kernel)), by decide +kernel⟩
theorem ci_mX23_orderCount : Cond.instanceMethod (ab_my mX23_orderCount) ∈ hb_TB := (hb_w13 79 (by decide +kernel))
theorem cs_mX23_orderCount : Cond.selects (ab_my mX23_orderCount).cls (ab_my mX23_orderCount) (ab_my mX23_orderCount) ∈ hb_TB := (hb_w0 172 (by decide +kernel))
theorem ca_mX23_nodeCount : Cond.initialized (ab_my mX23_nodeCount).cls ∈ hb_TB ∧ ((ab_my mX23_nodeCount).cls ≠ "java/lang/invoke/MethodHandle" ∧ (ab_my mX23_nodeCount).cls ≠ "java/lang/invoke/VarHandle" ∧ (parseMethodDescriptor (ab_my mX23_nodeCount).desc).map (fun d => d.parameters.length) = some 2) := ⟨(hb_w1 20 (by decide +kernel)), by decide +kernel⟩
theorem ci_mX23_nodeCount : Cond.instanceMethod (ab_my mX23_nodeCount) ∈ hb_TB := (hb_w13 83 (by decide +kernel))
theorem cs_mX23_nodeCount : Cond.selects (ab_my mX23_nodeCount).cls (ab_my mX23_nodeCount) (ab_my mX23_nodeCount) ∈ hb_TB := (hb_w0 173 (by decide +kernel))
theorem ca_mX23_order : Cond.initialized (ab_my mX23_order).cls ∈ hb_TB ∧ ((ab_my mX23_order).cls ≠ "java/lang/invoke/MethodHandle" ∧ (ab_my mX23_order).cls ≠ "java/lang/invoke/VarHandle" ∧ (parseMethodDescriptor (ab_my mX23_order).desc).map (fun d => d.parameters.length) = some 1) := ⟨(hb_w1 20 (by decide +kernel)), by decide +kernel⟩
theorem ci_mX23_order : Cond.instanceMethod (ab_my mX23_order) ∈ hb_TB := (hb_w13 75 (by decide +kernel))
theorem cs_mX23_order : Cond.selects (ab_my mX23_order).cls (ab_my mX23_order) (ab_my mX23_order) ∈ hb_TB := (hb_w0 171 (by decide +kernel))
theorem ca_mX23_without : Cond.initialized (ab_my mX23_without).cls ∈ hb_TB ∧ ((ab_my mX23_without).cls ≠ "java/lang/invoke/MethodHandle" ∧ (ab_my mX23_without).cls ≠ "java/lang/invoke/VarHandle" ∧ (parseMethodDescriptor (ab_my mX23_without).desc).map (fun d => d.parameters.length) = some 2) := ⟨(hb_w1 20 (by decide +kernel)), by decide +kernel⟩
theorem ct_mX23_without : Cond.static (ab_my mX23_without) ∈ hb_TB := (hb_w13 154 (by decide +kernel))
theorem ca_mX23_isOn : Cond.initialized (ab_my mX23_isOn).cls ∈ hb_TB ∧ ((ab_my mX23_isOn).cls ≠ "java/lang/invoke/MethodHandle" ∧ (ab_my mX23_isOn).cls ≠ "java/lang/invoke/VarHandle" ∧ (parseMethodDescriptor (ab_my mX23_isOn).desc).map (fun d => d.parameters.length) = some 2) := ⟨(hb_w1 20 (by decide +kernel)), by decide +kernel⟩
theorem ct_mX23_isOn : Cond.static (ab_my mX23_isOn) ∈ hb_TB := (hb_w13 185 (by decide +kernel))
theorem ca_mX23_isTrue : Cond.initialized (ab_my mX23_isTrue).cls ∈ hb_TB ∧ ((ab_my mX23_isTrue).cls ≠ "java/lang/invoke/MethodHandle" ∧ (ab_my mX23_isTrue).cls ≠ "java/lang/invoke/VarHandle" ∧ (parseMethodDescriptor (ab_my mX23_isTrue).desc).map (fun d => d.parameters.length) = some 3) := ⟨(hb_w1 20 (by decide +kernel)), by decide +kernel⟩
theorem ci_mX23_isTrue : Cond.instanceMethod (ab_my mX23_isTrue) ∈ hb_TB := (hb_w13 189 (by decide +kernel))
theorem cs_mX23_isTrue : Cond.selects (ab_my mX23_isTrue).cls (ab_my mX23_isTrue) (ab_my mX23_isTrue) ∈ hb_TB := (hb_w0 191 (by decide +kernel))
theorem ca_mX23_term : Cond.initialized (ab_my mX23_term).cls ∈ hb_TB ∧ ((ab_my mX23_term).cls ≠ "java/lang/invoke/MethodHandle" ∧ (ab_my mX23_term).cls ≠ "java/lang/invoke/VarHandle" ∧ (parseMethodDescriptor (ab_my mX23_term).desc).map (fun d => d.parameters.length) = some 2) := ⟨(hb_w1 20 (by decide +kernel)), by decide +kernel⟩
theorem ct_mX23_term : Cond.static (ab_my mX23_term) ∈ hb_TB := (hb_w13 192 (by decide +kernel))
theorem ca_mX23_nearer : Cond.initialized (ab_my mX23_nearer).cls ∈ hb_TB ∧ ((ab_my mX23_nearer).cls ≠ "java/lang/invoke/MethodHandle" ∧ (ab_my mX23_nearer).cls ≠ "java/lang/invoke/VarHandle" ∧ (parseMethodDescriptor (ab_my mX23_nearer).desc).map (fun d => d.parameters.length) = some 3) := ⟨(hb_w1 20 (by decide +kernel)), by decide +kernel⟩
theorem ci_mX23_nearer : Cond.instanceMethod (ab_my mX23_nearer) ∈ hb_TB := (hb_w12 234 (by decide +kernel))
theorem cs_mX23_nearer : Cond.selects (ab_my mX23_nearer).cls (ab_my mX23_nearer) (ab_my mX23_nearer) ∈ hb_TB := (hb_w0 157 (by decide +kernel))
theorem ca_mX23_firstOf : Cond.initialized (ab_my mX23_firstOf).cls ∈ hb_TB ∧ ((ab_my mX23_firstOf).cls ≠ "java/lang/invoke/MethodHandle" ∧ (ab_my mX23_firstOf).cls ≠ "java/lang/invoke/VarHandle" ∧ (parseMethodDescriptor (ab_my mX23_firstOf).desc).map (fun d => d.parameters.length) = some 1) := ⟨(hb_w1 20 (by decide +kernel)), by decide +kernel⟩
theorem ci_mX23_firstOf : Cond.instanceMethod (ab_my mX23_firstOf) ∈ hb_TB := (hb_w13 124 (by decide +kernel))
theorem cs_mX23_firstOf : Cond.selects (ab_my mX23_firstOf).cls (ab_my mX23_firstOf) (ab_my mX23_firstOf) ∈ hb_TB := (hb_w0 180 (by decide +kernel))
theorem ca_mX23_value : Cond.initialized (ab_my mX23_value).cls ∈ hb_TB ∧ ((ab_my mX23_value).cls ≠ "java/lang/invoke/MethodHandle" ∧ (ab_my mX23_value).cls ≠ "java/lang/invoke/VarHandle" ∧ (parseMethodDescriptor (ab_my mX23_value).desc).map (fun d => d.parameters.length) = some 2) := ⟨(hb_w1 20 (by decide +kernel)), by decide +kernel⟩
theorem ct_mX23_value : Cond.static (ab_my mX23_value) ∈ hb_TB := (hb_w13 135 (by decide +kernel))
theorem ca_mX23_ends : Cond.initialized (ab_my mX23_ends).cls ∈ hb_TB ∧ ((ab_my mX23_ends).cls ≠ "java/lang/invoke/MethodHandle" ∧ (ab_my mX23_ends).cls ≠ "java/lang/invoke/VarHandle" ∧ (parseMethodDescriptor (ab_my mX23_ends).desc).map (fun d => d.parameters.length) = some 1) := ⟨(hb_w1 20 (by decide +kernel)), by decide +kernel⟩
theorem ci_mX23_ends : Cond.instanceMethod (ab_my mX23_ends) ∈ hb_TB := (hb_w13 148 (by decide +kernel))
theorem cs_mX23_ends : Cond.selects (ab_my mX23_ends).cls (ab_my mX23_ends) (ab_my mX23_ends) ∈ hb_TB := (hb_w0 184 (by decide +kernel))
theorem ca_mX23_step : Cond.initialized (ab_my mX23_step).cls ∈ hb_TB ∧ ((ab_my mX23_step).cls ≠ "java/lang/invoke/MethodHandle" ∧ (ab_my mX23_step).cls ≠ "java/lang/invoke/VarHandle" ∧ (parseMethodDescriptor (ab_my mX23_step).desc).map (fun d => d.parameters.length) = some 0) := ⟨(hb_w1 20 (by decide +kernel)), by decide +kernel⟩
theorem ci_mX23_step : Cond.instanceMethod (ab_my mX23_step) ∈ hb_TB := (hb_w13 144 (by decide +kernel))
theorem cs_mX23_step : Cond.selects (ab_my mX23_step).cls (ab_my mX23_step) (ab_my mX23_step) ∈ hb_TB := (hb_w0 183 (by decide +kernel))
theorem ca_mX23_eval : Cond.initialized (ab_my mX23_eval).cls ∈ hb_TB ∧ ((ab_my mX23_eval).cls ≠ "java/lang/invoke/MethodHandle" ∧ (ab_my mX23_eval).cls ≠ "java/lang/invoke/VarHandle" ∧ (parseMethodDescriptor (ab_my mX23_eval).desc).map (fun d => d.parameters.length) = some 1) := ⟨(hb_w1 20 (by decide +kernel)), by decide +kernel⟩
theorem ci_mX23_eval : Cond.instanceMethod (ab_my mX23_eval) ∈ hb_TB := (hb_w13 140 (by decide +kernel))
theorem cs_mX23_eval : Cond.selects (ab_my mX23_eval).cls (ab_my mX23_eval) (ab_my mX23_eval) ∈ hb_TB := (hb_w0 182 (by decide +kernel))
theorem ca_mX23_with : Cond.initialized (ab_my mX23_with).cls ∈ hb_TB ∧ ((ab_my mX23_with).cls ≠ "java/lang/invoke/MethodHandle" ∧ (ab_my mX23_with).cls ≠ "java/lang/invoke/VarHandle" ∧ (parseMethodDescriptor (ab_my mX23_with).desc).map (fun d => d.parameters.length) = some 2) := ⟨(hb_w1 20 (by decide +kernel)), by decide +kernel⟩
theorem ct_mX23_with : Cond.static (ab_my mX23_with) ∈ hb_TB := (hb_w13 151 (by decide +kernel))
theorem ca_mX23_kindIn : Cond.initialized (ab_my mX23_kindIn).cls ∈ hb_TB ∧ ((ab_my mX23_kindIn).cls ≠ "java/lang/invoke/MethodHandle" ∧ (ab_my mX23_kindIn).cls ≠ "java/lang/invoke/VarHandle" ∧ (parseMethodDescriptor (ab_my mX23_kindIn).desc).map (fun d => d.parameters.length) = some 1) := ⟨(hb_w1 20 (by decide +kernel)), by decide +kernel⟩
theorem ct_mX23_kindIn : Cond.static (ab_my mX23_kindIn) ∈ hb_TB := (hb_w13 158 (by decide +kernel))
theorem ca_mX23_chained : Cond.initialized (ab_my mX23_chained).cls ∈ hb_TB ∧ ((ab_my mX23_chained).cls ≠ "java/lang/invoke/MethodHandle" ∧ (ab_my mX23_chained).cls ≠ "java/lang/invoke/VarHandle" ∧ (parseMethodDescriptor (ab_my mX23_chained).desc).map (fun d => d.parameters.length) = some 1) := ⟨(hb_w1 20 (by decide +kernel)), by decide +kernel⟩
theorem ci_mX23_chained : Cond.instanceMethod (ab_my mX23_chained) ∈ hb_TB := (hb_w13 162 (by decide +kernel))
theorem cs_mX23_chained : Cond.selects (ab_my mX23_chained).cls (ab_my mX23_chained) (ab_my mX23_chained) ∈ hb_TB := (hb_w0 185 (by decide +kernel))
theorem ca_mX23_called : Cond.initialized (ab_my mX23_called).cls ∈ hb_TB ∧ ((ab_my mX23_called).cls ≠ "java/lang/invoke/MethodHandle" ∧ (ab_my mX23_called).cls ≠ "java/lang/invoke/VarHandle" ∧ (parseMethodDescriptor (ab_my mX23_called).desc).map (fun d => d.parameters.length) = some 4) := ⟨(hb_w1 20 (by decide +kernel)), by decide +kernel⟩
theorem ci_mX23_called : Cond.instanceMethod (ab_my mX23_called) ∈ hb_TB := (hb_w13 170 (by decide +kernel))
theorem cs_mX23_called : Cond.selects (ab_my mX23_called).cls (ab_my mX23_called) (ab_my mX23_called) ∈ hb_TB := (hb_w0 187 (by decide +kernel))
theorem ca_mX23_further : Cond.initialized (ab_my mX23_further).cls ∈ hb_TB ∧ ((ab_my mX23_further).cls ≠ "java/lang/invoke/MethodHandle" ∧ (ab_my mX23_further).cls ≠ "java/lang/invoke/VarHandle" ∧ (parseMethodDescriptor (ab_my mX23_further).desc).map (fun d => d.parameters.length) = some 3) := ⟨(hb_w1 20 (by decide +kernel)), by decide +kernel⟩
theorem ci_mX23_further : Cond.instanceMethod (ab_my mX23_further) ∈ hb_TB := (hb_w13 214 (by decide +kernel))
theorem cs_mX23_further : Cond.selects (ab_my mX23_further).cls (ab_my mX23_further) (ab_my mX23_further) ∈ hb_TB := (hb_w0 196 (by decide +kernel))
theorem ca_mX23_fault : Cond.initialized (ab_my mX23_fault).cls ∈ hb_TB ∧ ((ab_my mX23_fault).cls ≠ "java/lang/invoke/MethodHandle" ∧ (ab_my mX23_fault).cls ≠ "java/lang/invoke/VarHandle" ∧ (parseMethodDescriptor (ab_my mX23_fault).desc).map (fun d => d.parameters.length) = some 1) := ⟨(hb_w1 20 (by decide +kernel)), by decide +kernel⟩
theorem ci_mX23_fault : Cond.instanceMethod (ab_my mX23_fault) ∈ hb_TB := (hb_w13 166 (by decide +kernel))
theorem cs_mX23_fault : Cond.selects (ab_my mX23_fault).cls (ab_my mX23_fault) (ab_my mX23_fault) ∈ hb_TB := (hb_w0 186 (by decide +kernel))
theorem ca_mX23_looks : Cond.initialized (ab_my mX23_looks).cls ∈ hb_TB ∧ ((ab_my mX23_looks).cls ≠ "java/lang/invoke/MethodHandle" ∧ (ab_my mX23_looks).cls ≠ "java/lang/invoke/VarHandle" ∧ (parseMethodDescriptor (ab_my mX23_looks).desc).map (fun d => d.parameters.length) = some 2) := ⟨(hb_w1 20 (by decide +kernel)), by decide +kernel⟩
theorem ci_mX23_looks : Cond.instanceMethod (ab_my mX23_looks) ∈ hb_TB := (hb_w13 174 (by decide +kernel))
theorem cs_mX23_looks : Cond.selects (ab_my mX23_looks).cls (ab_my mX23_looks) (ab_my mX23_looks) ∈ hb_TB := (hb_w0 188 (by decide +kernel))
theorem ca_mX23_choose : Cond.initialized (ab_my mX23_choose).cls ∈ hb_TB ∧ ((ab_my mX23_choose).cls ≠ "java/lang/invoke/MethodHandle" ∧ (ab_my mX23_choose).cls ≠ "java/lang/invoke/VarHandle" ∧ (parseMethodDescriptor (ab_my mX23_choose).desc).map (fun d => d.parameters.length) = some 2) := ⟨(hb_w1 20 (by decide +kernel)), by decide +kernel⟩
theorem ci_mX23_choose : Cond.instanceMethod (ab_my mX23_choose) ∈ hb_TB := (hb_w13 178 (by decide +kernel))
theorem cs_mX23_choose : Cond.selects (ab_my mX23_choose).cls (ab_my mX23_choose) (ab_my mX23_choose) ∈ hb_TB := (hb_w0 189 (by decide +kernel))
theorem ca_mX23_enter : Cond.initialized (ab_my mX23_enter).cls ∈ hb_TB ∧ ((ab_my mX23_enter).cls ≠ "java/lang/invoke/MethodHandle" ∧ (ab_my mX23_enter).cls ≠ "java/lang/invoke/VarHandle" ∧ (parseMethodDescriptor (ab_my mX23_enter).desc).map (fun d => d.parameters.length) = some 6) := ⟨(hb_w1 20 (by decide +kernel)), by decide +kernel⟩
theorem ci_mX23_enter : Cond.instanceMethod (ab_my mX23_enter) ∈ hb_TB := (hb_w13 201 (by decide +kernel))
theorem cs_mX23_enter : Cond.selects (ab_my mX23_enter).cls (ab_my mX23_enter) (ab_my mX23_enter) ∈ hb_TB := (hb_w0 193 (by decide +kernel))
theorem ca_mX23_inside : Cond.initialized (ab_my mX23_inside).cls ∈ hb_TB ∧ ((ab_my mX23_inside).cls ≠ "java/lang/invoke/MethodHandle" ∧ (ab_my mX23_inside).cls ≠ "java/lang/invoke/VarHandle" ∧ (parseMethodDescriptor (ab_my mX23_inside).desc).map (fun d => d.parameters.length) = some 4) := ⟨(hb_w1 20 (by decide +kernel)), by decide +kernel⟩
theorem ci_mX23_inside : Cond.instanceMethod (ab_my mX23_inside) ∈ hb_TB := (hb_w13 205 (by decide +kernel))
theorem cs_mX23_inside : Cond.selects (ab_my mX23_inside).cls (ab_my mX23_inside) (ab_my mX23_inside) ∈ hb_TB := (hb_w0 194 (by decide +kernel))
theorem ca_mX23_has : Cond.initialized (ab_my mX23_has).cls ∈ hb_TB ∧ ((ab_my mX23_has).cls ≠ "java/lang/invoke/MethodHandle" ∧ (ab_my mX23_has).cls ≠ "java/lang/invoke/VarHandle" ∧ (parseMethodDescriptor (ab_my mX23_has).desc).map (fun d => d.parameters.length) = some 2) := ⟨(hb_w1 20 (by decide +kernel)), by decide +kernel⟩
theorem ct_mX23_has : Cond.static (ab_my mX23_has) ∈ hb_TB := (hb_w13 101 (by decide +kernel))
theorem ca_mX23_fits : Cond.initialized (ab_my mX23_fits).cls ∈ hb_TB ∧ ((ab_my mX23_fits).cls ≠ "java/lang/invoke/MethodHandle" ∧ (ab_my mX23_fits).cls ≠ "java/lang/invoke/VarHandle" ∧ (parseMethodDescriptor (ab_my mX23_fits).desc).map (fun d => d.parameters.length) = some 2) := ⟨(hb_w1 20 (by decide +kernel)), by decide +kernel⟩
theorem ci_mX23_fits : Cond.instanceMethod (ab_my mX23_fits) ∈ hb_TB := (hb_w12 230 (by decide +kernel))
theorem cs_mX23_fits : Cond.selects (ab_my mX23_fits).cls (ab_my mX23_fits) (ab_my mX23_fits) ∈ hb_TB := (hb_w0 156 (by decide +kernel))
theorem ca_mX23_applies : Cond.initialized (ab_my mX23_applies).cls ∈ hb_TB ∧ ((ab_my mX23_applies).cls ≠ "java/lang/invoke/MethodHandle" ∧ (ab_my mX23_applies).cls ≠ "java/lang/invoke/VarHandle" ∧ (parseMethodDescriptor (ab_my mX23_applies).desc).map (fun d => d.parameters.length) = some 3) := ⟨(hb_w1 20 (by decide +kernel)), by decide +kernel⟩
theorem ci_mX23_applies : Cond.instanceMethod (ab_my mX23_applies) ∈ hb_TB := (hb_w13 182 (by decide +kernel))
theorem cs_mX23_applies : Cond.selects (ab_my mX23_applies).cls (ab_my mX23_applies) (ab_my mX23_applies) ∈ hb_TB := (hb_w0 190 (by decide +kernel))
theorem ca_mX23_chooseRow : Cond.initialized (ab_my mX23_chooseRow).cls ∈ hb_TB ∧ ((ab_my mX23_chooseRow).cls ≠ "java/lang/invoke/MethodHandle" ∧ (ab_my mX23_chooseRow).cls ≠ "java/lang/invoke/VarHandle" ∧ (parseMethodDescriptor (ab_my mX23_chooseRow).desc).map (fun d => d.parameters.length) = some 3) := ⟨(hb_w1 20 (by decide +kernel)), by decide +kernel⟩
theorem ci_mX23_chooseRow : Cond.instanceMethod (ab_my mX23_chooseRow) ∈ hb_TB := (hb_w13 196 (by decide +kernel))
theorem cs_mX23_chooseRow : Cond.selects (ab_my mX23_chooseRow).cls (ab_my mX23_chooseRow) (ab_my mX23_chooseRow) ∈ hb_TB := (hb_w0 192 (by decide +kernel))
theorem ca_mX23_joined_ : Cond.initialized (ab_my mX23_joined_).cls ∈ hb_TB ∧ ((ab_my mX23_joined_).cls ≠ "java/lang/invoke/MethodHandle" ∧ (ab_my mX23_joined_).cls ≠ "java/lang/invoke/VarHandle" ∧ (parseMethodDescriptor (ab_my mX23_joined_).desc).map (fun d => d.parameters.length) = some 5) := ⟨(hb_w1 20 (by decide +kernel)), by decide +kernel⟩
theorem ci_mX23_joined_ : Cond.instanceMethod (ab_my mX23_joined_) ∈ hb_TB := (hb_w13 209 (by decide +kernel))
theorem cs_mX23_joined_ : Cond.selects (ab_my mX23_joined_).cls (ab_my mX23_joined_) (ab_my mX23_joined_) ∈ hb_TB := (hb_w0 195 (by decide +kernel))
theorem ca_mX23_cells : Cond.initialized (ab_my mX23_cells).cls ∈ hb_TB ∧ ((ab_my mX23_cells).cls ≠ "java/lang/invoke/MethodHandle" ∧ (ab_my mX23_cells).cls ≠ "java/lang/invoke/VarHandle" ∧ (parseMethodDescriptor (ab_my mX23_cells).desc).map (fun d => d.parameters.length) = some 2) := ⟨(hb_w1 20 (by decide +kernel)), by decide +kernel⟩
theorem ci_mX23_cells : Cond.instanceMethod (ab_my mX23_cells) ∈ hb_TB := (hb_w13 71 (by decide +kernel))
theorem cs_mX23_cells : Cond.selects (ab_my mX23_cells).cls (ab_my mX23_cells) (ab_my mX23_cells) ∈ hb_TB := (hb_w0 170 (by decide +kernel))
theorem ca_mX23_collect : Cond.initialized (ab_my mX23_collect).cls ∈ hb_TB ∧ ((ab_my mX23_collect).cls ≠ "java/lang/invoke/MethodHandle" ∧ (ab_my mX23_collect).cls ≠ "java/lang/invoke/VarHandle" ∧ (parseMethodDescriptor (ab_my mX23_collect).desc).map (fun d => d.parameters.length) = some 1) := ⟨(hb_w1 20 (by decide +kernel)), by decide +kernel⟩
theorem ci_mX23_collect : Cond.instanceMethod (ab_my mX23_collect) ∈ hb_TB := (hb_w13 98 (by decide +kernel))
theorem cs_mX23_collect : Cond.selects (ab_my mX23_collect).cls (ab_my mX23_collect) (ab_my mX23_collect) ∈ hb_TB := (hb_w0 176 (by decide +kernel))
theorem ca_mX23_bad : Cond.initialized (ab_my mX23_bad).cls ∈ hb_TB ∧ ((ab_my mX23_bad).cls ≠ "java/lang/invoke/MethodHandle" ∧ (ab_my mX23_bad).cls ≠ "java/lang/invoke/VarHandle" ∧ (parseMethodDescriptor (ab_my mX23_bad).desc).map (fun d => d.parameters.length) = some 1) := ⟨(hb_w1 20 (by decide +kernel)), by decide +kernel⟩
theorem ci_mX23_bad : Cond.instanceMethod (ab_my mX23_bad) ∈ hb_TB := (hb_w13 109 (by decide +kernel))
theorem cs_mX23_bad : Cond.selects (ab_my mX23_bad).cls (ab_my mX23_bad) (ab_my mX23_bad) ∈ hb_TB := (hb_w0 177 (by decide +kernel))
theorem ca_mX18_asks : Cond.initialized (ab_my mX18_asks).cls ∈ hb_TB ∧ ((ab_my mX18_asks).cls ≠ "java/lang/invoke/MethodHandle" ∧ (ab_my mX18_asks).cls ≠ "java/lang/invoke/VarHandle" ∧ (parseMethodDescriptor (ab_my mX18_asks).desc).map (fun d => d.parameters.length) = some 1) := ⟨(hb_w1 28 (by decide +kernel)), by decide +kernel⟩
theorem ci_mX18_asks : Cond.instanceMethod (ab_my mX18_asks) ∈ hb_TB := (hb_w13 104 (by decide +kernel))
theorem cs_mX18_asks : Cond.selects (ab_my mX18_asks).cls (ab_my mX18_asks) (ab_my mX18_asks) ∈ hb_TB := (hb_w13 105 (by decide +kernel))
theorem ca_mX23_lookAt : Cond.initialized (ab_my mX23_lookAt).cls ∈ hb_TB ∧ ((ab_my mX23_lookAt).cls ≠ "java/lang/invoke/MethodHandle" ∧ (ab_my mX23_lookAt).cls ≠ "java/lang/invoke/VarHandle" ∧ (parseMethodDescriptor (ab_my mX23_lookAt).desc).map (fun d => d.parameters.length) = some 1) := ⟨(hb_w1 20 (by decide +kernel)), by decide +kernel⟩
theorem ci_mX23_lookAt : Cond.instanceMethod (ab_my mX23_lookAt) ∈ hb_TB := (hb_w13 113 (by decide +kernel))
theorem cs_mX23_lookAt : Cond.selects (ab_my mX23_lookAt).cls (ab_my mX23_lookAt) (ab_my mX23_lookAt) ∈ hb_TB := (hb_w0 178 (by decide +kernel))
theorem ca_mX23_isSeveral : Cond.initialized (ab_my mX23_isSeveral).cls ∈ hb_TB ∧ ((ab_my mX23_isSeveral).cls ≠ "java/lang/invoke/MethodHandle" ∧ (ab_my mX23_isSeveral).cls ≠ "java/lang/invoke/VarHandle" ∧ (parseMethodDescriptor (ab_my mX23_isSeveral).desc).map (fun d => d.parameters.length) = some 2) := ⟨(hb_w1 20 (by decide +kernel)), by decide +kernel⟩
theorem ci_mX23_isSeveral : Cond.instanceMethod (ab_my mX23_isSeveral) ∈ hb_TB := (hb_w13 120 (by decide +kernel))
theorem cs_mX23_isSeveral : Cond.selects (ab_my mX23_isSeveral).cls (ab_my mX23_isSeveral) (ab_my mX23_isSeveral) ∈ hb_TB := (hb_w0 179 (by decide +kernel))
theorem ca_mX23_asksKinds : Cond.initialized (ab_my mX23_asksKinds).cls ∈ hb_TB ∧ ((ab_my mX23_asksKinds).cls ≠ "java/lang/invoke/MethodHandle" ∧ (ab_my mX23_asksKinds).cls ≠ "java/lang/invoke/VarHandle" ∧ (parseMethodDescriptor (ab_my mX23_asksKinds).desc).map (fun d => d.parameters.length) = some 1) := ⟨(hb_w1 20 (by decide +kernel)), by decide +kernel⟩
theorem ct_mX23_asksKinds : Cond.static (ab_my mX23_asksKinds) ∈ hb_TB := (hb_w13 116 (by decide +kernel))
theorem ca_mX21_init : Cond.initialized (ab_my mX21_init).cls ∈ hb_TB ∧ ((ab_my mX21_init).cls ≠ "java/lang/invoke/MethodHandle" ∧ (ab_my mX21_init).cls ≠ "java/lang/invoke/VarHandle" ∧ (parseMethodDescriptor (ab_my mX21_init).desc).map (fun d => d.parameters.length) = some 0) := ⟨(hb_w1 21 (by decide +kernel)), by decide +kernel⟩
theorem ci_mX21_init : Cond.instanceMethod (ab_my mX21_init) ∈ hb_TB := (hb_w8 118 (by decide +kernel))
theorem ca_mX17_init : Cond.initialized (ab_my mX17_init).cls ∈ hb_TB ∧ ((ab_my mX17_init).cls ≠ "java/lang/invoke/MethodHandle" ∧ (ab_my mX17_init).cls ≠ "java/lang/invoke/VarHandle" ∧ (parseMethodDescriptor (ab_my mX17_init).desc).map (fun d => d.parameters.length) = some 0) := ⟨(hb_w1 25 (by decide +kernel)), by decide +kernel⟩
theorem ci_mX17_init : Cond.instanceMethod (ab_my mX17_init) ∈ hb_TB := (hb_w8 160 (by decide +kernel))
theorem ca_mX13_init : Cond.initialized (ab_my mX13_init).cls ∈ hb_TB ∧ ((ab_my mX13_init).cls ≠ "java/lang/invoke/MethodHandle" ∧ (ab_my mX13_init).cls ≠ "java/lang/invoke/VarHandle" ∧ (parseMethodDescriptor (ab_my mX13_init).desc).map (fun d => d.parameters.length) = some 0) := ⟨(hb_w1 27 (by decide +kernel)), by decide +kernel⟩
theorem ci_mX13_init : Cond.instanceMethod (ab_my mX13_init) ∈ hb_TB := (hb_w8 202 (by decide +kernel))
theorem ca_mX18_init : Cond.initialized (ab_my mX18_init).cls ∈ hb_TB ∧ ((ab_my mX18_init).cls ≠ "java/lang/invoke/MethodHandle" ∧ (ab_my mX18_init).cls ≠ "java/lang/invoke/VarHandle" ∧ (parseMethodDescriptor (ab_my mX18_init).desc).map (fun d => d.parameters.length) = some 0) := ⟨(hb_w1 28 (by decide +kernel)), by decide +kernel⟩
theorem ci_mX18_init : Cond.instanceMethod (ab_my mX18_init) ∈ hb_TB := (hb_w8 223 (by decide +kernel))
theorem ca_mX16_init : Cond.initialized (ab_my mX16_init).cls ∈ hb_TB ∧ ((ab_my mX16_init).cls ≠ "java/lang/invoke/MethodHandle" ∧ (ab_my mX16_init).cls ≠ "java/lang/invoke/VarHandle" ∧ (parseMethodDescriptor (ab_my mX16_init).desc).map (fun d => d.parameters.length) = some 0) := ⟨(hb_w1 32 (by decide +kernel)), by decide +kernel⟩
theorem ci_mX16_init : Cond.instanceMethod (ab_my mX16_init) ∈ hb_TB := (hb_w9 44 (by decide +kernel))
theorem ca_mX15_init : Cond.initialized (ab_my mX15_init).cls ∈ hb_TB ∧ ((ab_my mX15_init).cls ≠ "java/lang/invoke/MethodHandle" ∧ (ab_my mX15_init).cls ≠ "java/lang/invoke/VarHandle" ∧ (parseMethodDescriptor (ab_my mX15_init).desc).map (fun d => d.parameters.length) = some 0) := ⟨(hb_w1 33 (by decide +kernel)), by decide +kernel⟩
theorem ci_mX15_init : Cond.instanceMethod (ab_my mX15_init) ∈ hb_TB := (hb_w9 67 (by decide +kernel))
theorem ca_mX14_init : Cond.initialized (ab_my mX14_init).cls ∈ hb_TB ∧ ((ab_my mX14_init).cls ≠ "java/lang/invoke/MethodHandle" ∧ (ab_my mX14_init).cls ≠ "java/lang/invoke/VarHandle" ∧ (parseMethodDescriptor (ab_my mX14_init).desc).map (fun d => d.parameters.length) = some 0) := ⟨(hb_w1 34 (by decide +kernel)), by decide +kernel⟩
theorem ci_mX14_init : Cond.instanceMethod (ab_my mX14_init) ∈ hb_TB := (hb_w9 75 (by decide +kernel))
theorem ca_mX23_beginning : Cond.initialized (ab_my mX23_beginning).cls ∈ hb_TB ∧ ((ab_my mX23_beginning).cls ≠ "java/lang/invoke/MethodHandle" ∧ (ab_my mX23_beginning).cls ≠ "java/lang/invoke/VarHandle" ∧ (parseMethodDescriptor (ab_my mX23_beginning).desc).map (fun d => d.parameters.length) = some 0) := ⟨(hb_w1 20 (by decide +kernel)), by decide +kernel⟩
theorem ci_mX23_beginning : Cond.instanceMethod (ab_my mX23_beginning) ∈ hb_TB := (hb_w9 97 (by decide +kernel))
theorem cs_mX23_beginning : Cond.selects (ab_my mX23_beginning).cls (ab_my mX23_beginning) (ab_my mX23_beginning) ∈ hb_TB := (hb_w0 99 (by decide +kernel))
theorem ca_mX23_tellKind : Cond.initialized (ab_my mX23_tellKind).cls ∈ hb_TB ∧ ((ab_my mX23_tellKind).cls ≠ "java/lang/invoke/MethodHandle" ∧ (ab_my mX23_tellKind).cls ≠ "java/lang/invoke/VarHandle" ∧ (parseMethodDescriptor (ab_my mX23_tellKind).desc).map (fun d => d.parameters.length) = some 2) := ⟨(hb_w1 20 (by decide +kernel)), by decide +kernel⟩
theorem ci_mX23_tellKind : Cond.instanceMethod (ab_my mX23_tellKind) ∈ hb_TB := (hb_w9 102 (by decide +kernel))
theorem cs_mX23_tellKind : Cond.selects (ab_my mX23_tellKind).cls (ab_my mX23_tellKind) (ab_my mX23_tellKind) ∈ hb_TB := (hb_w0 100 (by decide +kernel))
theorem ca_mX23_rebuild : Cond.initialized (ab_my mX23_rebuild).cls ∈ hb_TB ∧ ((ab_my mX23_rebuild).cls ≠ "java/lang/invoke/MethodHandle" ∧ (ab_my mX23_rebuild).cls ≠ "java/lang/invoke/VarHandle" ∧ (parseMethodDescriptor (ab_my mX23_rebuild).desc).map (fun d => d.parameters.length) = some 0) := ⟨(hb_w1 20 (by decide +kernel)), by decide +kernel⟩
theorem ci_mX23_rebuild : Cond.instanceMethod (ab_my mX23_rebuild) ∈ hb_TB := (hb_w9 126 (by decide +kernel))
theorem cs_mX23_rebuild : Cond.selects (ab_my mX23_rebuild).cls (ab_my mX23_rebuild) (ab_my mX23_rebuild) ∈ hb_TB := (hb_w0 104 (by decide +kernel))
theorem ca_mX19_be_ : Cond.initialized (ab_my mX19_be_).cls ∈ hb_TB ∧ ((ab_my mX19_be_).cls ≠ "java/lang/invoke/MethodHandle" ∧ (ab_my mX19_be_).cls ≠ "java/lang/invoke/VarHandle" ∧ (parseMethodDescriptor (ab_my mX19_be_).desc).map (fun d => d.parameters.length) = some 1) := ⟨(hb_w1 26 (by decide +kernel)), by decide +kernel⟩
theorem ci_mX19_be_ : Cond.instanceMethod (ab_my mX19_be_) ∈ hb_TB := (hb_w9 105 (by decide +kernel))
theorem cs_mX19_be_ : Cond.selects (ab_my mX19_be_).cls (ab_my mX19_be_) (ab_my mX19_be_) ∈ hb_TB := (hb_w9 106 (by decide +kernel))
theorem ca_mX23_no_ : Cond.initialized (ab_my mX23_no_).cls ∈ hb_TB ∧ ((ab_my mX23_no_).cls ≠ "java/lang/invoke/MethodHandle" ∧ (ab_my mX23_no_).cls ≠ "java/lang/invoke/VarHandle" ∧ (parseMethodDescriptor (ab_my mX23_no_).desc).map (fun d => d.parameters.length) = some 1) := ⟨(hb_w1 20 (by decide +kernel)), by decide +kernel⟩
theorem ci_mX23_no_ : Cond.instanceMethod (ab_my mX23_no_) ∈ hb_TB := (hb_w11 16 (by decide +kernel))
theorem cs_mX23_no_ : Cond.selects (ab_my mX23_no_).cls (ab_my mX23_no_) (ab_my mX23_no_) ∈ hb_TB := (hb_w0 107 (by decide +kernel))
theorem ca_mX23_word_ : Cond.initialized (ab_my mX23_word_).cls ∈ hb_TB ∧ ((ab_my mX23_word_).cls ≠ "java/lang/invoke/MethodHandle" ∧ (ab_my mX23_word_).cls ≠ "java/lang/invoke/VarHandle" ∧ (parseMethodDescriptor (ab_my mX23_word_).desc).map (fun d => d.parameters.length) = some 2) := ⟨(hb_w1 20 (by decide +kernel)), by decide +kernel⟩
theorem ci_mX23_word_ : Cond.instanceMethod (ab_my mX23_word_) ∈ hb_TB := (hb_w11 20 (by decide +kernel))
theorem cs_mX23_word_ : Cond.selects (ab_my mX23_word_).cls (ab_my mX23_word_) (ab_my mX23_word_) ∈ hb_TB := (hb_w0 108 (by decide +kernel))
theorem ca_mX23_readText : Cond.initialized (ab_my mX23_readText).cls ∈ hb_TB ∧ ((ab_my mX23_readText).cls ≠ "java/lang/invoke/MethodHandle" ∧ (ab_my mX23_readText).cls ≠ "java/lang/invoke/VarHandle" ∧ (parseMethodDescriptor (ab_my mX23_readText).desc).map (fun d => d.parameters.length) = some 0) := ⟨(hb_w1 20 (by decide +kernel)), by decide +kernel⟩
theorem ci_mX23_readText : Cond.instanceMethod (ab_my mX23_readText) ∈ hb_TB := (hb_w11 33 (by decide +kernel))
theorem cs_mX23_readText : Cond.selects (ab_my mX23_readText).cls (ab_my mX23_readText) (ab_my mX23_readText) ∈ hb_TB := (hb_w0 109 (by decide +kernel))
theorem ca_mX23_isKind : Cond.initialized (ab_my mX23_isKind).cls ∈ hb_TB ∧ ((ab_my mX23_isKind).cls ≠ "java/lang/invoke/MethodHandle" ∧ (ab_my mX23_isKind).cls ≠ "java/lang/invoke/VarHandle" ∧ (parseMethodDescriptor (ab_my mX23_isKind).desc).map (fun d => d.parameters.length) = some 1) := ⟨(hb_w1 20 (by decide +kernel)), by decide +kernel⟩
theorem ci_mX23_isKind : Cond.instanceMethod (ab_my mX23_isKind) ∈ hb_TB := (hb_w12 218 (by decide +kernel))
theorem cs_mX23_isKind : Cond.selects (ab_my mX23_isKind).cls (ab_my mX23_isKind) (ab_my mX23_isKind) ∈ hb_TB := (hb_w0 155 (by decide +kernel))
theorem ca_mX23_lists : Cond.initialized (ab_my mX23_lists).cls ∈ hb_TB ∧ ((ab_my mX23_lists).cls ≠ "java/lang/invoke/MethodHandle" ∧ (ab_my mX23_lists).cls ≠ "java/lang/invoke/VarHandle" ∧ (parseMethodDescriptor (ab_my mX23_lists).desc).map (fun d => d.parameters.length) = some 1) := ⟨(hb_w1 20 (by decide +kernel)), by decide +kernel⟩
theorem ci_mX23_lists : Cond.instanceMethod (ab_my mX23_lists) ∈ hb_TB := (hb_w13 48 (by decide +kernel))
theorem cs_mX23_lists : Cond.selects (ab_my mX23_lists).cls (ab_my mX23_lists) (ab_my mX23_lists) ∈ hb_TB := (hb_w0 166 (by decide +kernel))
theorem ca_mX23_judge : Cond.initialized (ab_my mX23_judge).cls ∈ hb_TB ∧ ((ab_my mX23_judge).cls ≠ "java/lang/invoke/MethodHandle" ∧ (ab_my mX23_judge).cls ≠ "java/lang/invoke/VarHandle" ∧ (parseMethodDescriptor (ab_my mX23_judge).desc).map (fun d => d.parameters.length) = some 1) := ⟨(hb_w1 20 (by decide +kernel)), by decide +kernel⟩
theorem ci_mX23_judge : Cond.instanceMethod (ab_my mX23_judge) ∈ hb_TB := (hb_w13 94 (by decide +kernel))
theorem cs_mX23_judge : Cond.selects (ab_my mX23_judge).cls (ab_my mX23_judge) (ab_my mX23_judge) ∈ hb_TB := (hb_w0 175 (by decide +kernel))
theorem ca_mX23_runAll : Cond.initialized (ab_my mX23_runAll).cls ∈ hb_TB ∧ ((ab_my mX23_runAll).cls ≠ "java/lang/invoke/MethodHandle" ∧ (ab_my mX23_runAll).cls ≠ "java/lang/invoke/VarHandle" ∧ (parseMethodDescriptor (ab_my mX23_runAll).desc).map (fun d => d.parameters.length) = some 0) := ⟨(hb_w1 20 (by decide +kernel)), by decide +kernel⟩
theorem ci_mX23_runAll : Cond.instanceMethod (ab_my mX23_runAll) ∈ hb_TB := (hb_w13 132 (by decide +kernel))
theorem cs_mX23_runAll : Cond.selects (ab_my mX23_runAll).cls (ab_my mX23_runAll) (ab_my mX23_runAll) ∈ hb_TB := (hb_w0 181 (by decide +kernel))
theorem ca_mJ6_numberOfTrailingZeros_0f7a4 : Cond.initialized (ab_my mJ6_numberOfTrailingZeros_0f7a4).cls ∈ hb_TB ∧ ((ab_my mJ6_numberOfTrailingZeros_0f7a4).cls ≠ "java/lang/invoke/MethodHandle" ∧ (ab_my mJ6_numberOfTrailingZeros_0f7a4).cls ≠ "java/lang/invoke/VarHandle" ∧ (parseMethodDescriptor (ab_my mJ6_numberOfTrailingZeros_0f7a4).desc).map (fun d => d.parameters.length) = some 1) := ⟨(hb_w1 11 (by decide +kernel)), by decide +kernel⟩
theorem ct_mJ6_numberOfTrailingZeros_0f7a4 : Cond.static (ab_my mJ6_numberOfTrailingZeros_0f7a4) ∈ hb_TB := (hb_w7 94 (by decide +kernel))
theorem ca_mJ0_coder_7d493 : Cond.initialized (ab_my mJ0_coder_7d493).cls ∈ hb_TB ∧ ((ab_my mJ0_coder_7d493).cls ≠ "java/lang/invoke/MethodHandle" ∧ (ab_my mJ0_coder_7d493).cls ≠ "java/lang/invoke/VarHandle" ∧ (parseMethodDescriptor (ab_my mJ0_coder_7d493).desc).map (fun d => d.parameters.length) = some 0) := ⟨(hb_w1 7 (by decide +kernel)), by decide +kernel⟩
theorem ci_mJ0_coder_7d493 : Cond.instanceMethod (ab_my mJ0_coder_7d493) ∈ hb_TB := (hb_w1 227 (by decide +kernel))
theorem cs_mJ0_coder_7d493 : Cond.selects (ab_my mJ0_coder_7d493).cls (ab_my mJ0_coder_7d493) (ab_my mJ0_coder_7d493) ∈ hb_TB := (hb_w1 228 (by decide +kernel))
theorem ca_mJ0_isLatin1_aae02 : Cond.initialized (ab_my mJ0_isLatin1_aae02).cls ∈ hb_TB ∧ ((ab_my mJ0_isLatin1_aae02).cls ≠ "java/lang/invoke/MethodHandle" ∧ (ab_my mJ0_isLatin1_aae02).cls ≠ "java/lang/invoke/VarHandle" ∧ (parseMethodDescriptor (ab_my mJ0_isLatin1_aae02).desc).map (fun d => d.parameters.length) = some 0) := ⟨(hb_w1 7 (by decide +kernel)), by decide +kernel⟩
theorem ci_mJ0_isLatin1_aae02 : Cond.instanceMethod (ab_my mJ0_isLatin1_aae02) ∈ hb_TB := (hb_w1 237 (by decide +kernel))
theorem cs_mJ0_isLatin1_aae02 : Cond.selects (ab_my mJ0_isLatin1_aae02).cls (ab_my mJ0_isLatin1_aae02) (ab_my mJ0_isLatin1_aae02) ∈ hb_TB := (hb_w1 238 (by decide +kernel))
theorem ca_mJ1_charAt_3b067 : Cond.initialized (ab_my mJ1_charAt_3b067).cls ∈ hb_TB ∧ ((ab_my mJ1_charAt_3b067).cls ≠ "java/lang/invoke/MethodHandle" ∧ (ab_my mJ1_charAt_3b067).cls ≠ "java/lang/invoke/VarHandle" ∧ (parseMethodDescriptor (ab_my mJ1_charAt_3b067).desc).map (fun d => d.parameters.length) = some 2) := ⟨(hb_w1 8 (by decide +kernel)), by decide +kernel⟩
theorem ct_mJ1_charAt_3b067 : Cond.static (ab_my mJ1_charAt_3b067) ∈ hb_TB := (hb_w2 1 (by decide +kernel))
theorem ca_mJ2_charAt_3b067 : Cond.initialized (ab_my mJ2_charAt_3b067).cls ∈ hb_TB ∧ ((ab_my mJ2_charAt_3b067).cls ≠ "java/lang/invoke/MethodHandle" ∧ (ab_my mJ2_charAt_3b067).cls ≠ "java/lang/invoke/VarHandle" ∧ (parseMethodDescriptor (ab_my mJ2_charAt_3b067).desc).map (fun d => d.parameters.length) = some 2) := ⟨(hb_w1 10 (by decide +kernel)), by decide +kernel⟩
theorem ct_mJ2_charAt_3b067 : Cond.static (ab_my mJ2_charAt_3b067) ∈ hb_TB := (hb_w2 12 (by decide +kernel))
theorem ca_mJ1_equals_b5fdf : Cond.initialized (ab_my mJ1_equals_b5fdf).cls ∈ hb_TB ∧ ((ab_my mJ1_equals_b5fdf).cls ≠ "java/lang/invoke/MethodHandle" ∧ (ab_my mJ1_equals_b5fdf).cls ≠ "java/lang/invoke/VarHandle" ∧ (parseMethodDescriptor (ab_my mJ1_equals_b5fdf).desc).map (fun d => d.parameters.length) = some 2) := ⟨(hb_w1 8 (by decide +kernel)), by decide +kernel⟩
theorem ct_mJ1_equals_b5fdf : Cond.static (ab_my mJ1_equals_b5fdf) ∈ hb_TB := (hb_w11 113 (by decide +kernel))
theorem ca_mJ0_indexOf_7cf53 : Cond.initialized (ab_my mJ0_indexOf_7cf53).cls ∈ hb_TB ∧ ((ab_my mJ0_indexOf_7cf53).cls ≠ "java/lang/invoke/MethodHandle" ∧ (ab_my mJ0_indexOf_7cf53).cls ≠ "java/lang/invoke/VarHandle" ∧ (parseMethodDescriptor (ab_my mJ0_indexOf_7cf53).desc).map (fun d => d.parameters.length) = some 2) := ⟨(hb_w1 7 (by decide +kernel)), by decide +kernel⟩
theorem ci_mJ0_indexOf_7cf53 : Cond.instanceMethod (ab_my mJ0_indexOf_7cf53) ∈ hb_TB := (hb_w4 199 (by decide +kernel))
theorem cs_mJ0_indexOf_7cf53 : Cond.selects (ab_my mJ0_indexOf_7cf53).cls (ab_my mJ0_indexOf_7cf53) (ab_my mJ0_indexOf_7cf53) ∈ hb_TB := (hb_w4 200 (by decide +kernel))
theorem ca_mJ1_indexOf_4cfef : Cond.initialized (ab_my mJ1_indexOf_4cfef).cls ∈ hb_TB ∧ ((ab_my mJ1_indexOf_4cfef).cls ≠ "java/lang/invoke/MethodHandle" ∧ (ab_my mJ1_indexOf_4cfef).cls ≠ "java/lang/invoke/VarHandle" ∧ (parseMethodDescriptor (ab_my mJ1_indexOf_4cfef).desc).map (fun d => d.parameters.length) = some 4) := ⟨(hb_w1 8 (by decide +kernel)), by decide +kernel⟩
theorem ct_mJ1_indexOf_4cfef : Cond.static (ab_my mJ1_indexOf_4cfef) ∈ hb_TB := (hb_w4 204 (by decide +kernel))
theorem ca_mJ2_indexOf_4cfef : Cond.initialized (ab_my mJ2_indexOf_4cfef).cls ∈ hb_TB ∧ ((ab_my mJ2_indexOf_4cfef).cls ≠ "java/lang/invoke/MethodHandle" ∧ (ab_my mJ2_indexOf_4cfef).cls ≠ "java/lang/invoke/VarHandle" ∧ (parseMethodDescriptor (ab_my mJ2_indexOf_4cfef).desc).map (fun d => d.parameters.length) = some 4) := ⟨(hb_w1 10 (by decide +kernel)), by decide +kernel⟩
theorem ct_mJ2_indexOf_4cfef : Cond.static (ab_my mJ2_indexOf_4cfef) ∈ hb_TB := (hb_w4 217 (by decide +kernel))
theorem ca_mJ3_checkIndex_8e157 : Cond.initialized (ab_my mJ3_checkIndex_8e157).cls ∈ hb_TB ∧ ((ab_my mJ3_checkIndex_8e157).cls ≠ "java/lang/invoke/MethodHandle" ∧ (ab_my mJ3_checkIndex_8e157).cls ≠ "java/lang/invoke/VarHandle" ∧ (parseMethodDescriptor (ab_my mJ3_checkIndex_8e157).desc).map (fun d => d.parameters.length) = some 3) := ⟨(hb_w1 9 (by decide +kernel)), by decide +kernel⟩
theorem ct_mJ3_checkIndex_8e157 : Cond.static (ab_my mJ3_checkIndex_8e157) ∈ hb_TB := (hb_w2 9 (by decide +kernel))
theorem ca_mJ3_checkFromToIndex_8c36e : Cond.initialized (ab_my mJ3_checkFromToIndex_8c36e).cls ∈ hb_TB ∧ ((ab_my mJ3_checkFromToIndex_8c36e).cls ≠ "java/lang/invoke/MethodHandle" ∧ (ab_my mJ3_checkFromToIndex_8c36e).cls ≠ "java/lang/invoke/VarHandle" ∧ (parseMethodDescriptor (ab_my mJ3_checkFromToIndex_8c36e).desc).map (fun d => d.parameters.length) = some 4) := ⟨(hb_w1 9 (by decide +kernel)), by decide +kernel⟩
theorem ct_mJ3_checkFromToIndex_8c36e : Cond.static (ab_my mJ3_checkFromToIndex_8c36e) ∈ hb_TB := (hb_w4 232 (by decide +kernel))
theorem ca_mJ0_checkIndex_df160 : Cond.initialized (ab_my mJ0_checkIndex_df160).cls ∈ hb_TB ∧ ((ab_my mJ0_checkIndex_df160).cls ≠ "java/lang/invoke/MethodHandle" ∧ (ab_my mJ0_checkIndex_df160).cls ≠ "java/lang/invoke/VarHandle" ∧ (parseMethodDescriptor (ab_my mJ0_checkIndex_df160).desc).map (fun d => d.parameters.length) = some 2) := ⟨(hb_w1 7 (by decide +kernel)), by decide +kernel⟩
theorem ct_mJ0_checkIndex_df160 : Cond.static (ab_my mJ0_checkIndex_df160) ∈ hb_TB := (hb_w2 4 (by decide +kernel))
theorem ca_mJ1_canEncode_9a6ad : Cond.initialized (ab_my mJ1_canEncode_9a6ad).cls ∈ hb_TB ∧ ((ab_my mJ1_canEncode_9a6ad).cls ≠ "java/lang/invoke/MethodHandle" ∧ (ab_my mJ1_canEncode_9a6ad).cls ≠ "java/lang/invoke/VarHandle" ∧ (parseMethodDescriptor (ab_my mJ1_canEncode_9a6ad).desc).map (fun d => d.parameters.length) = some 1) := ⟨(hb_w1 8 (by decide +kernel)), by decide +kernel⟩
theorem ct_mJ1_canEncode_9a6ad : Cond.static (ab_my mJ1_canEncode_9a6ad) ∈ hb_TB := (hb_w4 207 (by decide +kernel))
theorem ca_mJ1_indexOfChar_4cfef : Cond.initialized (ab_my mJ1_indexOfChar_4cfef).cls ∈ hb_TB ∧ ((ab_my mJ1_indexOfChar_4cfef).cls ≠ "java/lang/invoke/MethodHandle" ∧ (ab_my mJ1_indexOfChar_4cfef).cls ≠ "java/lang/invoke/VarHandle" ∧ (parseMethodDescriptor (ab_my mJ1_indexOfChar_4cfef).desc).map (fun d => d.parameters.length) = some 4) := ⟨(hb_w1 8 (by decide +kernel)), by decide +kernel⟩
theorem ct_mJ1_indexOfChar_4cfef : Cond.static (ab_my mJ1_indexOfChar_4cfef) ∈ hb_TB := (hb_w4 214 (by decide +kernel))
theorem ca_mJ2_length_9d52b : Cond.initialized (ab_my mJ2_length_9d52b).cls ∈ hb_TB ∧ ((ab_my mJ2_length_9d52b).cls ≠ "java/lang/invoke/MethodHandle" ∧ (ab_my mJ2_length_9d52b).cls ≠ "java/lang/invoke/VarHandle" ∧ (parseMethodDescriptor (ab_my mJ2_length_9d52b).desc).map (fun d => d.parameters.length) = some 1) := ⟨(hb_w1 10 (by decide +kernel)), by decide +kernel⟩
theorem ct_mJ2_length_9d52b : Cond.static (ab_my mJ2_length_9d52b) ∈ hb_TB := (hb_w2 18 (by decide +kernel))
theorem ca_mJ2_checkIndex_2214a : Cond.initialized (ab_my mJ2_checkIndex_2214a).cls ∈ hb_TB ∧ ((ab_my mJ2_checkIndex_2214a).cls ≠ "java/lang/invoke/MethodHandle" ∧ (ab_my mJ2_checkIndex_2214a).cls ≠ "java/lang/invoke/VarHandle" ∧ (parseMethodDescriptor (ab_my mJ2_checkIndex_2214a).desc).map (fun d => d.parameters.length) = some 2) := ⟨(hb_w1 10 (by decide +kernel)), by decide +kernel⟩
theorem ct_mJ2_checkIndex_2214a : Cond.static (ab_my mJ2_checkIndex_2214a) ∈ hb_TB := (hb_w2 15 (by decide +kernel))
theorem ca_mJ2_getChar_3b067 : Cond.initialized (ab_my mJ2_getChar_3b067).cls ∈ hb_TB ∧ ((ab_my mJ2_getChar_3b067).cls ≠ "java/lang/invoke/MethodHandle" ∧ (ab_my mJ2_getChar_3b067).cls ≠ "java/lang/invoke/VarHandle" ∧ (parseMethodDescriptor (ab_my mJ2_getChar_3b067).desc).map (fun d => d.parameters.length) = some 2) := ⟨(hb_w1 10 (by decide +kernel)), by decide +kernel⟩
theorem ct_mJ2_getChar_3b067 : Cond.static (ab_my mJ2_getChar_3b067) ∈ hb_TB := (hb_w2 22 (by decide +kernel))
theorem ca_mJ2_checkBoundsBeginEnd_d044e : Cond.initialized (ab_my mJ2_checkBoundsBeginEnd_d044e).cls ∈ hb_TB ∧ ((ab_my mJ2_checkBoundsBeginEnd_d044e).cls ≠ "java/lang/invoke/MethodHandle" ∧ (ab_my mJ2_checkBoundsBeginEnd_d044e).cls ≠ "java/lang/invoke/VarHandle" ∧ (parseMethodDescriptor (ab_my mJ2_checkBoundsBeginEnd_d044e).desc).map (fun d => d.parameters.length) = some 3) := ⟨(hb_w1 10 (by decide +kernel)), by decide +kernel⟩
theorem ct_mJ2_checkBoundsBeginEnd_d044e : Cond.static (ab_my mJ2_checkBoundsBeginEnd_d044e) ∈ hb_TB := (hb_w4 226 (by decide +kernel))
theorem ca_mJ11_highSurrogate_5068e : Cond.initialized (ab_my mJ11_highSurrogate_5068e).cls ∈ hb_TB ∧ ((ab_my mJ11_highSurrogate_5068e).cls ≠ "java/lang/invoke/MethodHandle" ∧ (ab_my mJ11_highSurrogate_5068e).cls ≠ "java/lang/invoke/VarHandle" ∧ (parseMethodDescriptor (ab_my mJ11_highSurrogate_5068e).desc).map (fun d => d.parameters.length) = some 1) := ⟨(hb_w1 39 (by decide +kernel)), by decide +kernel⟩
theorem ct_mJ11_highSurrogate_5068e : Cond.static (ab_my mJ11_highSurrogate_5068e) ∈ hb_TB := (hb_w5 4 (by decide +kernel))
theorem ca_mJ11_lowSurrogate_5068e : Cond.initialized (ab_my mJ11_lowSurrogate_5068e).cls ∈ hb_TB ∧ ((ab_my mJ11_lowSurrogate_5068e).cls ≠ "java/lang/invoke/MethodHandle" ∧ (ab_my mJ11_lowSurrogate_5068e).cls ≠ "java/lang/invoke/VarHandle" ∧ (parseMethodDescriptor (ab_my mJ11_lowSurrogate_5068e).desc).map (fun d => d.parameters.length) = some 1) := ⟨(hb_w1 39 (by decide +kernel)), by decide +kernel⟩
theorem ct_mJ11_lowSurrogate_5068e : Cond.static (ab_my mJ11_lowSurrogate_5068e) ∈ hb_TB := (hb_w5 8 (by decide +kernel))
theorem ca_mJ11_isValidCodePoint_9a6ad : Cond.initialized (ab_my mJ11_isValidCodePoint_9a6ad).cls ∈ hb_TB ∧ ((ab_my mJ11_isValidCodePoint_9a6ad).cls ≠ "java/lang/invoke/MethodHandle" ∧ (ab_my mJ11_isValidCodePoint_9a6ad).cls ≠ "java/lang/invoke/VarHandle" ∧ (parseMethodDescriptor (ab_my mJ11_isValidCodePoint_9a6ad).desc).map (fun d => d.parameters.length) = some 1) := ⟨(hb_w1 39 (by decide +kernel)), by decide +kernel⟩
theorem ct_mJ11_isValidCodePoint_9a6ad : Cond.static (ab_my mJ11_isValidCodePoint_9a6ad) ∈ hb_TB := (hb_w5 1 (by decide +kernel))
theorem ca_mJ2_indexOfChar_4cfef : Cond.initialized (ab_my mJ2_indexOfChar_4cfef).cls ∈ hb_TB ∧ ((ab_my mJ2_indexOfChar_4cfef).cls ≠ "java/lang/invoke/MethodHandle" ∧ (ab_my mJ2_indexOfChar_4cfef).cls ≠ "java/lang/invoke/VarHandle" ∧ (parseMethodDescriptor (ab_my mJ2_indexOfChar_4cfef).desc).map (fun d => d.parameters.length) = some 4) := ⟨(hb_w1 10 (by decide +kernel)), by decide +kernel⟩
theorem ct_mJ2_indexOfChar_4cfef : Cond.static (ab_my mJ2_indexOfChar_4cfef) ∈ hb_TB := (hb_w4 223 (by decide +kernel))
theorem ca_mJ2_indexOfSupplementary_4cfef : Cond.initialized (ab_my mJ2_indexOfSupplementary_4cfef).cls ∈ hb_TB ∧ ((ab_my mJ2_indexOfSupplementary_4cfef).cls ≠ "java/lang/invoke/MethodHandle" ∧ (ab_my mJ2_indexOfSupplementary_4cfef).cls ≠ "java/lang/invoke/VarHandle" ∧ (parseMethodDescriptor (ab_my mJ2_indexOfSupplementary_4cfef).desc).map (fun d => d.parameters.length) = some 4) := ⟨(hb_w1 10 (by decide +kernel)), by decide +kernel⟩
theorem ct_mJ2_indexOfSupplementary_4cfef : Cond.static (ab_my mJ2_indexOfSupplementary_4cfef) ∈ hb_TB := (hb_w4 238 (by decide +kernel))
theorem ca_mJ0_checkBoundsBeginEnd_23922 : Cond.initialized (ab_my mJ0_checkBoundsBeginEnd_23922).cls ∈ hb_TB ∧ ((ab_my mJ0_checkBoundsBeginEnd_23922).cls ≠ "java/lang/invoke/MethodHandle" ∧ (ab_my mJ0_checkBoundsBeginEnd_23922).cls ≠ "java/lang/invoke/VarHandle" ∧ (parseMethodDescriptor (ab_my mJ0_checkBoundsBeginEnd_23922).desc).map (fun d => d.parameters.length) = some 3) := ⟨(hb_w1 7 (by decide +kernel)), by decide +kernel⟩
theorem ct_mJ0_checkBoundsBeginEnd_23922 : Cond.static (ab_my mJ0_checkBoundsBeginEnd_23922) ∈ hb_TB := (hb_w4 229 (by decide +kernel))
theorem ca_mJ2_indexOfCharUnsafe_4cfef : Cond.initialized (ab_my mJ2_indexOfCharUnsafe_4cfef).cls ∈ hb_TB ∧ ((ab_my mJ2_indexOfCharUnsafe_4cfef).cls ≠ "java/lang/invoke/MethodHandle" ∧ (ab_my mJ2_indexOfCharUnsafe_4cfef).cls ≠ "java/lang/invoke/VarHandle" ∧ (parseMethodDescriptor (ab_my mJ2_indexOfCharUnsafe_4cfef).desc).map (fun d => d.parameters.length) = some 4) := ⟨(hb_w1 10 (by decide +kernel)), by decide +kernel⟩
theorem ct_mJ2_indexOfCharUnsafe_4cfef : Cond.static (ab_my mJ2_indexOfCharUnsafe_4cfef) ∈ hb_TB := (hb_w4 235 (by decide +kernel))
theorem ca_mJxa1e45_init_da8c8 : Cond.initialized (ab_my mJxa1e45_init_da8c8).cls ∈ hb_TB ∧ ((ab_my mJxa1e45_init_da8c8).cls ≠ "java/lang/invoke/MethodHandle" ∧ (ab_my mJxa1e45_init_da8c8).cls ≠ "java/lang/invoke/VarHandle" ∧ (parseMethodDescriptor (ab_my mJxa1e45_init_da8c8).desc).map (fun d => d.parameters.length) = some 0) := ⟨(hb_w1 22 (by decide +kernel)), by decide +kernel⟩
theorem ci_mJxa1e45_init_da8c8 : Cond.instanceMethod (ab_my mJxa1e45_init_da8c8) ∈ hb_TB := (hb_w8 130 (by decide +kernel))
theorem ca_mJxc12de_init_da8c8 : Cond.initialized (ab_my mJxc12de_init_da8c8).cls ∈ hb_TB ∧ ((ab_my mJxc12de_init_da8c8).cls ≠ "java/lang/invoke/MethodHandle" ∧ (ab_my mJxc12de_init_da8c8).cls ≠ "java/lang/invoke/VarHandle" ∧ (parseMethodDescriptor (ab_my mJxc12de_init_da8c8).desc).map (fun d => d.parameters.length) = some 0) := ⟨(hb_w1 23 (by decide +kernel)), by decide +kernel⟩
theorem ci_mJxc12de_init_da8c8 : Cond.instanceMethod (ab_my mJxc12de_init_da8c8) ∈ hb_TB := (hb_w8 127 (by decide +kernel))
theorem ca_mJ7_copyOf_1904c : Cond.initialized (ab_my mJ7_copyOf_1904c).cls ∈ hb_TB ∧ ((ab_my mJ7_copyOf_1904c).cls ≠ "java/lang/invoke/MethodHandle" ∧ (ab_my mJ7_copyOf_1904c).cls ≠ "java/lang/invoke/VarHandle" ∧ (parseMethodDescriptor (ab_my mJ7_copyOf_1904c).desc).map (fun d => d.parameters.length) = some 2) := ⟨(hb_w1 12 (by decide +kernel)), by decide +kernel⟩
theorem ct_mJ7_copyOf_1904c : Cond.static (ab_my mJ7_copyOf_1904c) ∈ hb_TB := (hb_w12 73 (by decide +kernel))
theorem ca_mJx4a65c_grow_92f84 : Cond.initialized (ab_my mJx4a65c_grow_92f84).cls ∈ hb_TB ∧ ((ab_my mJx4a65c_grow_92f84).cls ≠ "java/lang/invoke/MethodHandle" ∧ (ab_my mJx4a65c_grow_92f84).cls ≠ "java/lang/invoke/VarHandle" ∧ (parseMethodDescriptor (ab_my mJx4a65c_grow_92f84).desc).map (fun d => d.parameters.length) = some 1) := ⟨(hb_w1 24 (by decide +kernel)), by decide +kernel⟩
theorem ci_mJx4a65c_grow_92f84 : Cond.instanceMethod (ab_my mJx4a65c_grow_92f84) ∈ hb_TB := (hb_w12 62 (by decide +kernel))
theorem cs_mJx4a65c_grow_92f84 : Cond.selects (ab_my mJx4a65c_grow_92f84).cls (ab_my mJx4a65c_grow_92f84) (ab_my mJx4a65c_grow_92f84) ∈ hb_TB := (hb_w0 139 (by decide +kernel))
theorem ca_mJ8_newLength_cabcc : Cond.initialized (ab_my mJ8_newLength_cabcc).cls ∈ hb_TB ∧ ((ab_my mJ8_newLength_cabcc).cls ≠ "java/lang/invoke/MethodHandle" ∧ (ab_my mJ8_newLength_cabcc).cls ≠ "java/lang/invoke/VarHandle" ∧ (parseMethodDescriptor (ab_my mJ8_newLength_cabcc).desc).map (fun d => d.parameters.length) = some 3) := ⟨(hb_w1 42 (by decide +kernel)), by decide +kernel⟩
theorem ct_mJ8_newLength_cabcc : Cond.static (ab_my mJ8_newLength_cabcc) ∈ hb_TB := (hb_w12 65 (by decide +kernel))
theorem ca_mJ15_checkIndex_7cf53 : Cond.initialized (ab_my mJ15_checkIndex_7cf53).cls ∈ hb_TB ∧ ((ab_my mJ15_checkIndex_7cf53).cls ≠ "java/lang/invoke/MethodHandle" ∧ (ab_my mJ15_checkIndex_7cf53).cls ≠ "java/lang/invoke/VarHandle" ∧ (parseMethodDescriptor (ab_my mJ15_checkIndex_7cf53).desc).map (fun d => d.parameters.length) = some 2) := ⟨(hb_w1 43 (by decide +kernel)), by decide +kernel⟩
theorem ct_mJ15_checkIndex_7cf53 : Cond.static (ab_my mJ15_checkIndex_7cf53) ∈ hb_TB := (hb_w12 120 (by decide +kernel))
theorem ca_mJx4a65c_elementData_915e3 : Cond.initialized (ab_my mJx4a65c_elementData_915e3).cls ∈ hb_TB ∧ ((ab_my mJx4a65c_elementData_915e3).cls ≠ "java/lang/invoke/MethodHandle" ∧ (ab_my mJx4a65c_elementData_915e3).cls ≠ "java/lang/invoke/VarHandle" ∧ (parseMethodDescriptor (ab_my mJx4a65c_elementData_915e3).desc).map (fun d => d.parameters.length) = some 1) := ⟨(hb_w1 24 (by decide +kernel)), by decide +kernel⟩
theorem ci_mJx4a65c_elementData_915e3 : Cond.instanceMethod (ab_my mJx4a65c_elementData_915e3) ∈ hb_TB := (hb_w12 124 (by decide +kernel))
theorem cs_mJx4a65c_elementData_915e3 : Cond.selects (ab_my mJx4a65c_elementData_915e3).cls (ab_my mJx4a65c_elementData_915e3) (ab_my mJx4a65c_elementData_915e3) ∈ hb_TB := (hb_w12 125 (by decide +kernel))
theorem ca_mJx4a65c_grow_d5877 : Cond.initialized (ab_my mJx4a65c_grow_d5877).cls ∈ hb_TB ∧ ((ab_my mJx4a65c_grow_d5877).cls ≠ "java/lang/invoke/MethodHandle" ∧ (ab_my mJx4a65c_grow_d5877).cls ≠ "java/lang/invoke/VarHandle" ∧ (parseMethodDescriptor (ab_my mJx4a65c_grow_d5877).desc).map (fun d => d.parameters.length) = some 0) := ⟨(hb_w1 24 (by decide +kernel)), by decide +kernel⟩
theorem ci_mJx4a65c_grow_d5877 : Cond.instanceMethod (ab_my mJx4a65c_grow_d5877) ∈ hb_TB := (hb_w12 58 (by decide +kernel))
theorem cs_mJx4a65c_grow_d5877 : Cond.selects (ab_my mJx4a65c_grow_d5877).cls (ab_my mJx4a65c_grow_d5877) (ab_my mJx4a65c_grow_d5877) ∈ hb_TB := (hb_w0 138 (by decide +kernel))
theorem ca_mJx4a65c_add_72be8 : Cond.initialized (ab_my mJx4a65c_add_72be8).cls ∈ hb_TB ∧ ((ab_my mJx4a65c_add_72be8).cls ≠ "java/lang/invoke/MethodHandle" ∧ (ab_my mJx4a65c_add_72be8).cls ≠ "java/lang/invoke/VarHandle" ∧ (parseMethodDescriptor (ab_my mJx4a65c_add_72be8).desc).map (fun d => d.parameters.length) = some 3) := ⟨(hb_w1 24 (by decide +kernel)), by decide +kernel⟩
theorem ci_mJx4a65c_add_72be8 : Cond.instanceMethod (ab_my mJx4a65c_add_72be8) ∈ hb_TB := (hb_w12 54 (by decide +kernel))
theorem cs_mJx4a65c_add_72be8 : Cond.selects (ab_my mJx4a65c_add_72be8).cls (ab_my mJx4a65c_add_72be8) (ab_my mJx4a65c_add_72be8) ∈ hb_TB := (hb_w0 137 (by decide +kernel))
theorem ca_mJ7_copyOf_6403c : Cond.initialized (ab_my mJ7_copyOf_6403c).cls ∈ hb_TB ∧ ((ab_my mJ7_copyOf_6403c).cls ≠ "java/lang/invoke/MethodHandle" ∧ (ab_my mJ7_copyOf_6403c).cls ≠ "java/lang/invoke/VarHandle" ∧ (parseMethodDescriptor (ab_my mJ7_copyOf_6403c).desc).map (fun d => d.parameters.length) = some 3) := ⟨(hb_w1 12 (by decide +kernel)), by decide +kernel⟩
theorem ct_mJ7_copyOf_6403c : Cond.static (ab_my mJ7_copyOf_6403c) ∈ hb_TB := (hb_w12 108 (by decide +kernel))
theorem ca_mJ8_hugeLength_7cf53 : Cond.initialized (ab_my mJ8_hugeLength_7cf53).cls ∈ hb_TB ∧ ((ab_my mJ8_hugeLength_7cf53).cls ≠ "java/lang/invoke/MethodHandle" ∧ (ab_my mJ8_hugeLength_7cf53).cls ≠ "java/lang/invoke/VarHandle" ∧ (parseMethodDescriptor (ab_my mJ8_hugeLength_7cf53).desc).map (fun d => d.parameters.length) = some 2) := ⟨(hb_w1 42 (by decide +kernel)), by decide +kernel⟩
theorem ct_mJ8_hugeLength_7cf53 : Cond.static (ab_my mJ8_hugeLength_7cf53) ∈ hb_TB := (hb_w12 70 (by decide +kernel))
theorem ca_mZE15_init : Cond.initialized (ab_my mZE15_init).cls ∈ hb_TB ∧ ((ab_my mZE15_init).cls ≠ "java/lang/invoke/MethodHandle" ∧ (ab_my mZE15_init).cls ≠ "java/lang/invoke/VarHandle" ∧ (parseMethodDescriptor (ab_my mZE15_init).desc).map (fun d => d.parameters.length) = some 4) := ⟨(hb_w1 30 (by decide +kernel)), by decide +kernel⟩
theorem ci_mZE15_init : Cond.instanceMethod (ab_my mZE15_init) ∈ hb_TB := (hb_w9 50 (by decide +kernel))
theorem ca_mZT15_init : Cond.initialized (ab_my mZT15_init).cls ∈ hb_TB ∧ ((ab_my mZT15_init).cls ≠ "java/lang/invoke/MethodHandle" ∧ (ab_my mZT15_init).cls ≠ "java/lang/invoke/VarHandle" ∧ (parseMethodDescriptor (ab_my mZT15_init).desc).map (fun d => d.parameters.length) = some 4) := ⟨(hb_w1 29 (by decide +kernel)), by decide +kernel⟩
theorem ci_mZT15_init : Cond.instanceMethod (ab_my mZT15_init) ∈ hb_TB := (hb_w9 53 (by decide +kernel))
theorem ca_mZE16_init : Cond.initialized (ab_my mZE16_init).cls ∈ hb_TB ∧ ((ab_my mZE16_init).cls ≠ "java/lang/invoke/MethodHandle" ∧ (ab_my mZE16_init).cls ≠ "java/lang/invoke/VarHandle" ∧ (parseMethodDescriptor (ab_my mZE16_init).desc).map (fun d => d.parameters.length) = some 4) := ⟨(hb_w1 30 (by decide +kernel)), by decide +kernel⟩
theorem ci_mZE16_init : Cond.instanceMethod (ab_my mZE16_init) ∈ hb_TB := (hb_w9 50 (by decide +kernel))
theorem ca_mZT16_init : Cond.initialized (ab_my mZT16_init).cls ∈ hb_TB ∧ ((ab_my mZT16_init).cls ≠ "java/lang/invoke/MethodHandle" ∧ (ab_my mZT16_init).cls ≠ "java/lang/invoke/VarHandle" ∧ (parseMethodDescriptor (ab_my mZT16_init).desc).map (fun d => d.parameters.length) = some 4) := ⟨(hb_w1 29 (by decide +kernel)), by decide +kernel⟩
theorem ci_mZT16_init : Cond.instanceMethod (ab_my mZT16_init) ∈ hb_TB := (hb_w9 53 (by decide +kernel))
theorem ca_mZE22_init : Cond.initialized (ab_my mZE22_init).cls ∈ hb_TB ∧ ((ab_my mZE22_init).cls ≠ "java/lang/invoke/MethodHandle" ∧ (ab_my mZE22_init).cls ≠ "java/lang/invoke/VarHandle" ∧ (parseMethodDescriptor (ab_my mZE22_init).desc).map (fun d => d.parameters.length) = some 4) := ⟨(hb_w1 30 (by decide +kernel)), by decide +kernel⟩
theorem ci_mZE22_init : Cond.instanceMethod (ab_my mZE22_init) ∈ hb_TB := (hb_w9 50 (by decide +kernel))
theorem ca_mZT22_init : Cond.initialized (ab_my mZT22_init).cls ∈ hb_TB ∧ ((ab_my mZT22_init).cls ≠ "java/lang/invoke/MethodHandle" ∧ (ab_my mZT22_init).cls ≠ "java/lang/invoke/VarHandle" ∧ (parseMethodDescriptor (ab_my mZT22_init).desc).map (fun d => d.parameters.length) = some 4) := ⟨(hb_w1 29 (by decide +kernel)), by decide +kernel⟩
theorem ci_mZT22_init : Cond.instanceMethod (ab_my mZT22_init) ∈ hb_TB := (hb_w9 53 (by decide +kernel))
theorem ca_mX12_feed : Cond.initialized (ab_my mX12_feed).cls ∈ hb_TB ∧ ((ab_my mX12_feed).cls ≠ "java/lang/invoke/MethodHandle" ∧ (ab_my mX12_feed).cls ≠ "java/lang/invoke/VarHandle" ∧ (parseMethodDescriptor (ab_my mX12_feed).desc).map (fun d => d.parameters.length) = some 5) := ⟨(hb_w1 1 (by decide +kernel)), by decide +kernel⟩
theorem ci_mX12_feed : Cond.instanceMethod (ab_my mX12_feed) ∈ hb_TB := (hb_w6 13 (by decide +kernel))
theorem cs_mX12_feed : Cond.selects (ab_my mX12_feed).cls (ab_my mX12_feed) (ab_my mX12_feed) ∈ hb_TB := (hb_w6 14 (by decide +kernel))
theorem ca_mX12_end : Cond.initialized (ab_my mX12_end).cls ∈ hb_TB ∧ ((ab_my mX12_end).cls ≠ "java/lang/invoke/MethodHandle" ∧ (ab_my mX12_end).cls ≠ "java/lang/invoke/VarHandle" ∧ (parseMethodDescriptor (ab_my mX12_end).desc).map (fun d => d.parameters.length) = some 1) := ⟨(hb_w1 1 (by decide +kernel)), by decide +kernel⟩
theorem ci_mX12_end : Cond.instanceMethod (ab_my mX12_end) ∈ hb_TB := (hb_w6 101 (by decide +kernel))
theorem cs_mX12_end : Cond.selects (ab_my mX12_end).cls (ab_my mX12_end) (ab_my mX12_end) ∈ hb_TB := (hb_w6 102 (by decide +kernel))
theorem ca_mX12_drop : Cond.initialized (ab_my mX12_drop).cls ∈ hb_TB ∧ ((ab_my mX12_drop).cls ≠ "java/lang/invoke/MethodHandle" ∧ (ab_my mX12_drop).cls ≠ "java/lang/invoke/VarHandle" ∧ (parseMethodDescriptor (ab_my mX12_drop).desc).map (fun d => d.parameters.length) = some 1) := ⟨(hb_w1 1 (by decide +kernel)), by decide +kernel⟩
theorem ci_mX12_drop : Cond.instanceMethod (ab_my mX12_drop) ∈ hb_TB := (hb_w6 123 (by decide +kernel))
theorem cs_mX12_drop : Cond.selects (ab_my mX12_drop).cls (ab_my mX12_drop) (ab_my mX12_drop) ∈ hb_TB := (hb_w6 124 (by decide +kernel))
theorem ca_mX12_set : Cond.initialized (ab_my mX12_set).cls ∈ hb_TB ∧ ((ab_my mX12_set).cls ≠ "java/lang/invoke/MethodHandle" ∧ (ab_my mX12_set).cls ≠ "java/lang/invoke/VarHandle" ∧ (parseMethodDescriptor (ab_my mX12_set).desc).map (fun d => d.parameters.length) = some 2) := ⟨(hb_w1 1 (by decide +kernel)), by decide +kernel⟩
theorem ci_mX12_set : Cond.instanceMethod (ab_my mX12_set) ∈ hb_TB := (hb_w6 132 (by decide +kernel))
theorem cs_mX12_set : Cond.selects (ab_my mX12_set).cls (ab_my mX12_set) (ab_my mX12_set) ∈ hb_TB := (hb_w6 133 (by decide +kernel))
theorem ca_mX12_count : Cond.initialized (ab_my mX12_count).cls ∈ hb_TB ∧ ((ab_my mX12_count).cls ≠ "java/lang/invoke/MethodHandle" ∧ (ab_my mX12_count).cls ≠ "java/lang/invoke/VarHandle" ∧ (parseMethodDescriptor (ab_my mX12_count).desc).map (fun d => d.parameters.length) = some 1) := ⟨(hb_w1 1 (by decide +kernel)), by decide +kernel⟩
theorem ci_mX12_count : Cond.instanceMethod (ab_my mX12_count) ∈ hb_TB := (hb_w6 140 (by decide +kernel))
theorem cs_mX12_count : Cond.selects (ab_my mX12_count).cls (ab_my mX12_count) (ab_my mX12_count) ∈ hb_TB := (hb_w6 141 (by decide +kernel))
theorem ca_mX12_below : Cond.initialized (ab_my mX12_below).cls ∈ hb_TB ∧ ((ab_my mX12_below).cls ≠ "java/lang/invoke/MethodHandle" ∧ (ab_my mX12_below).cls ≠ "java/lang/invoke/VarHandle" ∧ (parseMethodDescriptor (ab_my mX12_below).desc).map (fun d => d.parameters.length) = some 2) := ⟨(hb_w1 1 (by decide +kernel)), by decide +kernel⟩
theorem ci_mX12_below : Cond.instanceMethod (ab_my mX12_below) ∈ hb_TB := (hb_w6 147 (by decide +kernel))
theorem cs_mX12_below : Cond.selects (ab_my mX12_below).cls (ab_my mX12_below) (ab_my mX12_below) ∈ hb_TB := (hb_w6 148 (by decide +kernel))
theorem ca_mX12_row : Cond.initialized (ab_my mX12_row).cls ∈ hb_TB ∧ ((ab_my mX12_row).cls ≠ "java/lang/invoke/MethodHandle" ∧ (ab_my mX12_row).cls ≠ "java/lang/invoke/VarHandle" ∧ (parseMethodDescriptor (ab_my mX12_row).desc).map (fun d => d.parameters.length) = some 3) := ⟨(hb_w1 1 (by decide +kernel)), by decide +kernel⟩
theorem ci_mX12_row : Cond.instanceMethod (ab_my mX12_row) ∈ hb_TB := (hb_w6 159 (by decide +kernel))
theorem cs_mX12_row : Cond.selects (ab_my mX12_row).cls (ab_my mX12_row) (ab_my mX12_row) ∈ hb_TB := (hb_w6 160 (by decide +kernel))
theorem ca_mX12_nearer : Cond.initialized (ab_my mX12_nearer).cls ∈ hb_TB ∧ ((ab_my mX12_nearer).cls ≠ "java/lang/invoke/MethodHandle" ∧ (ab_my mX12_nearer).cls ≠ "java/lang/invoke/VarHandle" ∧ (parseMethodDescriptor (ab_my mX12_nearer).desc).map (fun d => d.parameters.length) = some 5) := ⟨(hb_w1 1 (by decide +kernel)), by decide +kernel⟩
theorem ci_mX12_nearer : Cond.instanceMethod (ab_my mX12_nearer) ∈ hb_TB := (hb_w6 167 (by decide +kernel))
theorem cs_mX12_nearer : Cond.selects (ab_my mX12_nearer).cls (ab_my mX12_nearer) (ab_my mX12_nearer) ∈ hb_TB := (hb_w6 168 (by decide +kernel))
theorem ca_mX12_call : Cond.initialized (ab_my mX12_call).cls ∈ hb_TB ∧ ((ab_my mX12_call).cls ≠ "java/lang/invoke/MethodHandle" ∧ (ab_my mX12_call).cls ≠ "java/lang/invoke/VarHandle" ∧ (parseMethodDescriptor (ab_my mX12_call).desc).map (fun d => d.parameters.length) = some 2) := ⟨(hb_w1 1 (by decide +kernel)), by decide +kernel⟩
theorem ci_mX12_call : Cond.instanceMethod (ab_my mX12_call) ∈ hb_TB := (hb_w7 4 (by decide +kernel))
theorem cs_mX12_call : Cond.selects (ab_my mX12_call).cls (ab_my mX12_call) (ab_my mX12_call) ∈ hb_TB := (hb_w7 5 (by decide +kernel))
theorem ca_mX12_run : Cond.initialized (ab_my mX12_run).cls ∈ hb_TB ∧ ((ab_my mX12_run).cls ≠ "java/lang/invoke/MethodHandle" ∧ (ab_my mX12_run).cls ≠ "java/lang/invoke/VarHandle" ∧ (parseMethodDescriptor (ab_my mX12_run).desc).map (fun d => d.parameters.length) = some 0) := ⟨(hb_w1 1 (by decide +kernel)), by decide +kernel⟩
theorem ci_mX12_run : Cond.instanceMethod (ab_my mX12_run) ∈ hb_TB := (hb_w7 122 (by decide +kernel))
theorem cs_mX12_run : Cond.selects (ab_my mX12_run).cls (ab_my mX12_run) (ab_my mX12_run) ∈ hb_TB := (hb_w7 123 (by decide +kernel))
theorem ca_mX12_told : Cond.initialized (ab_my mX12_told).cls ∈ hb_TB ∧ ((ab_my mX12_told).cls ≠ "java/lang/invoke/MethodHandle" ∧ (ab_my mX12_told).cls ≠ "java/lang/invoke/VarHandle" ∧ (parseMethodDescriptor (ab_my mX12_told).desc).map (fun d => d.parameters.length) = some 1) := ⟨(hb_w1 1 (by decide +kernel)), by decide +kernel⟩
theorem ci_mX12_told : Cond.instanceMethod (ab_my mX12_told) ∈ hb_TB := (hb_w8 71 (by decide +kernel))
theorem cs_mX12_told : Cond.selects (ab_my mX12_told).cls (ab_my mX12_told) (ab_my mX12_told) ∈ hb_TB := (hb_w8 72 (by decide +kernel))
theorem ca_mX12_shown : Cond.initialized (ab_my mX12_shown).cls ∈ hb_TB ∧ ((ab_my mX12_shown).cls ≠ "java/lang/invoke/MethodHandle" ∧ (ab_my mX12_shown).cls ≠ "java/lang/invoke/VarHandle" ∧ (parseMethodDescriptor (ab_my mX12_shown).desc).map (fun d => d.parameters.length) = some 1) := ⟨(hb_w1 1 (by decide +kernel)), by decide +kernel⟩
theorem ci_mX12_shown : Cond.instanceMethod (ab_my mX12_shown) ∈ hb_TB := (hb_w8 79 (by decide +kernel))
theorem cs_mX12_shown : Cond.selects (ab_my mX12_shown).cls (ab_my mX12_shown) (ab_my mX12_shown) ∈ hb_TB := (hb_w8 80 (by decide +kernel))
theorem ca_mX12_ran : Cond.initialized (ab_my mX12_ran).cls ∈ hb_TB ∧ ((ab_my mX12_ran).cls ≠ "java/lang/invoke/MethodHandle" ∧ (ab_my mX12_ran).cls ≠ "java/lang/invoke/VarHandle" ∧ (parseMethodDescriptor (ab_my mX12_ran).desc).map (fun d => d.parameters.length) = some 0) := ⟨(hb_w1 1 (by decide +kernel)), by decide +kernel⟩
theorem ci_mX12_ran : Cond.instanceMethod (ab_my mX12_ran) ∈ hb_TB := (hb_w8 86 (by decide +kernel))
theorem cs_mX12_ran : Cond.selects (ab_my mX12_ran).cls (ab_my mX12_ran) (ab_my mX12_ran) ∈ hb_TB := (hb_w8 87 (by decide +kernel))
theorem ca_mX12_word : Cond.initialized (ab_my mX12_word).cls ∈ hb_TB ∧ ((ab_my mX12_word).cls ≠ "java/lang/invoke/MethodHandle" ∧ (ab_my mX12_word).cls ≠ "java/lang/invoke/VarHandle" ∧ (parseMethodDescriptor (ab_my mX12_word).desc).map (fun d => d.parameters.length) = some 1) := ⟨(hb_w1 1 (by decide +kernel)), by decide +kernel⟩
theorem ci_mX12_word : Cond.instanceMethod (ab_my mX12_word) ∈ hb_TB := (hb_w8 94 (by decide +kernel))
theorem cs_mX12_word : Cond.selects (ab_my mX12_word).cls (ab_my mX12_word) (ab_my mX12_word) ∈ hb_TB := (hb_w8 95 (by decide +kernel))
theorem ca_mX12_init : Cond.initialized (ab_my mX12_init).cls ∈ hb_TB ∧ ((ab_my mX12_init).cls ≠ "java/lang/invoke/MethodHandle" ∧ (ab_my mX12_init).cls ≠ "java/lang/invoke/VarHandle" ∧ (parseMethodDescriptor (ab_my mX12_init).desc).map (fun d => d.parameters.length) = some 0) := ⟨(hb_w1 1 (by decide +kernel)), by decide +kernel⟩
theorem ci_mX12_init : Cond.instanceMethod (ab_my mX12_init) ∈ hb_TB := (hb_w1 49 (by decide +kernel))
theorem ca_mX23_init : Cond.initialized (ab_my mX23_init).cls ∈ hb_TB ∧ ((ab_my mX23_init).cls ≠ "java/lang/invoke/MethodHandle" ∧ (ab_my mX23_init).cls ≠ "java/lang/invoke/VarHandle" ∧ (parseMethodDescriptor (ab_my mX23_init).desc).map (fun d => d.parameters.length) = some 0) := ⟨(hb_w1 20 (by decide +kernel)), by decide +kernel⟩
theorem ci_mX23_init : Cond.instanceMethod (ab_my mX23_init) ∈ hb_TB := (hb_w8 104 (by decide +kernel))
theorem ca_mL_feed : Cond.initialized (ab_my mL_feed).cls ∈ hb_TB ∧ ((ab_my mL_feed).cls ≠ "java/lang/invoke/MethodHandle" ∧ (ab_my mL_feed).cls ≠ "java/lang/invoke/VarHandle" ∧ (parseMethodDescriptor (ab_my mL_feed).desc).map (fun d => d.parameters.length) = some 7) := ⟨(hb_w1 0 (by decide +kernel)), by decide +kernel⟩
theorem ct_mL_feed : Cond.static (ab_my mL_feed) ∈ hb_TB := (hb_w6 9 (by decide +kernel))
theorem ca_mX23_feed : Cond.initialized (ab_my mX23_feed).cls ∈ hb_TB ∧ ((ab_my mX23_feed).cls ≠ "java/lang/invoke/MethodHandle" ∧ (ab_my mX23_feed).cls ≠ "java/lang/invoke/VarHandle" ∧ (parseMethodDescriptor (ab_my mX23_feed).desc).map (fun d => d.parameters.length) = some 5) := ⟨(hb_w1 20 (by decide +kernel)), by decide +kernel⟩
theorem ci_mX23_feed : Cond.instanceMethod (ab_my mX23_feed) ∈ hb_TB := (hb_w11 11 (by decide +kernel))
theorem cs_mX23_feed : Cond.selects (ab_my mX23_feed).cls (ab_my mX23_feed) (ab_my mX23_feed) ∈ hb_TB := (hb_w11 12 (by decide +kernel))
theorem ca_mX23_thrown : Cond.initialized (ab_my mX23_thrown).cls ∈ hb_TB ∧ ((ab_my mX23_thrown).cls ≠ "java/lang/invoke/MethodHandle" ∧ (ab_my mX23_thrown).cls ≠ "java/lang/invoke/VarHandle" ∧ (parseMethodDescriptor (ab_my mX23_thrown).desc).map (fun d => d.parameters.length) = some 0) := ⟨(hb_w1 20 (by decide +kernel)), by decide +kernel⟩
theorem ci_mX23_thrown : Cond.instanceMethod (ab_my mX23_thrown) ∈ hb_TB := (hb_w11 7 (by decide +kernel))
theorem cs_mX23_thrown : Cond.selects (ab_my mX23_thrown).cls (ab_my mX23_thrown) (ab_my mX23_thrown) ∈ hb_TB := (hb_w11 8 (by decide +kernel))
theorem ca_mL_end : Cond.initialized (ab_my mL_end).cls ∈ hb_TB ∧ ((ab_my mL_end).cls ≠ "java/lang/invoke/MethodHandle" ∧ (ab_my mL_end).cls ≠ "java/lang/invoke/VarHandle" ∧ (parseMethodDescriptor (ab_my mL_end).desc).map (fun d => d.parameters.length) = some 3) := ⟨(hb_w1 0 (by decide +kernel)), by decide +kernel⟩
theorem ct_mL_end : Cond.static (ab_my mL_end) ∈ hb_TB := (hb_w6 97 (by decide +kernel))
theorem ca_mX23_end : Cond.initialized (ab_my mX23_end).cls ∈ hb_TB ∧ ((ab_my mX23_end).cls ≠ "java/lang/invoke/MethodHandle" ∧ (ab_my mX23_end).cls ≠ "java/lang/invoke/VarHandle" ∧ (parseMethodDescriptor (ab_my mX23_end).desc).map (fun d => d.parameters.length) = some 1) := ⟨(hb_w1 20 (by decide +kernel)), by decide +kernel⟩
theorem ci_mX23_end : Cond.instanceMethod (ab_my mX23_end) ∈ hb_TB := (hb_w11 23 (by decide +kernel))
theorem cs_mX23_end : Cond.selects (ab_my mX23_end).cls (ab_my mX23_end) (ab_my mX23_end) ∈ hb_TB := (hb_w11 24 (by decide +kernel))
theorem ca_mX12_tell : Cond.initialized (ab_my mX12_tell).cls ∈ hb_TB ∧ ((ab_my mX12_tell).cls ≠ "java/lang/invoke/MethodHandle" ∧ (ab_my mX12_tell).cls ≠ "java/lang/invoke/VarHandle" ∧ (parseMethodDescriptor (ab_my mX12_tell).desc).map (fun d => d.parameters.length) = some 0) := ⟨(hb_w1 1 (by decide +kernel)), by decide +kernel⟩
theorem ci_mX12_tell : Cond.instanceMethod (ab_my mX12_tell) ∈ hb_TB := (hb_w4 146 (by decide +kernel))
theorem cs_mX12_tell : Cond.selects (ab_my mX12_tell).cls (ab_my mX12_tell) (ab_my mX12_tell) ∈ hb_TB := (hb_w4 147 (by decide +kernel))
theorem ca_mX23_tell : Cond.initialized (ab_my mX23_tell).cls ∈ hb_TB ∧ ((ab_my mX23_tell).cls ≠ "java/lang/invoke/MethodHandle" ∧ (ab_my mX23_tell).cls ≠ "java/lang/invoke/VarHandle" ∧ (parseMethodDescriptor (ab_my mX23_tell).desc).map (fun d => d.parameters.length) = some 0) := ⟨(hb_w1 20 (by decide +kernel)), by decide +kernel⟩
theorem ci_mX23_tell : Cond.instanceMethod (ab_my mX23_tell) ∈ hb_TB := (hb_w11 27 (by decide +kernel))
theorem cs_mX23_tell : Cond.selects (ab_my mX23_tell).cls (ab_my mX23_tell) (ab_my mX23_tell) ∈ hb_TB := (hb_w11 28 (by decide +kernel))
theorem ca_mX12_program : Cond.initialized (ab_my mX12_program).cls ∈ hb_TB ∧ ((ab_my mX12_program).cls ≠ "java/lang/invoke/MethodHandle" ∧ (ab_my mX12_program).cls ≠ "java/lang/invoke/VarHandle" ∧ (parseMethodDescriptor (ab_my mX12_program).desc).map (fun d => d.parameters.length) = some 0) := ⟨(hb_w1 1 (by decide +kernel)), by decide +kernel⟩
theorem ci_mX12_program : Cond.instanceMethod (ab_my mX12_program) ∈ hb_TB := (hb_w5 228 (by decide +kernel))
theorem cs_mX12_program : Cond.selects (ab_my mX12_program).cls (ab_my mX12_program) (ab_my mX12_program) ∈ hb_TB := (hb_w5 229 (by decide +kernel))
theorem ca_mX23_program : Cond.initialized (ab_my mX23_program).cls ∈ hb_TB ∧ ((ab_my mX23_program).cls ≠ "java/lang/invoke/MethodHandle" ∧ (ab_my mX23_program).cls ≠ "java/lang/invoke/VarHandle" ∧ (parseMethodDescriptor (ab_my mX23_program).desc).map (fun d => d.parameters.length) = some 0) := ⟨(hb_w1 20 (by decide +kernel)), by decide +kernel⟩
theorem ci_mX23_program : Cond.instanceMethod (ab_my mX23_program) ∈ hb_TB := (hb_w12 192 (by decide +kernel))
theorem cs_mX23_program : Cond.selects (ab_my mX23_program).cls (ab_my mX23_program) (ab_my mX23_program) ∈ hb_TB := (hb_w12 193 (by decide +kernel))
theorem ca_mX12_clear : Cond.initialized (ab_my mX12_clear).cls ∈ hb_TB ∧ ((ab_my mX12_clear).cls ≠ "java/lang/invoke/MethodHandle" ∧ (ab_my mX12_clear).cls ≠ "java/lang/invoke/VarHandle" ∧ (parseMethodDescriptor (ab_my mX12_clear).desc).map (fun d => d.parameters.length) = some 0) := ⟨(hb_w1 1 (by decide +kernel)), by decide +kernel⟩
theorem ci_mX12_clear : Cond.instanceMethod (ab_my mX12_clear) ∈ hb_TB := (hb_w5 236 (by decide +kernel))
theorem cs_mX12_clear : Cond.selects (ab_my mX12_clear).cls (ab_my mX12_clear) (ab_my mX12_clear) ∈ hb_TB := (hb_w5 237 (by decide +kernel))
theorem ca_mX23_clear : Cond.initialized (ab_my mX23_clear).cls ∈ hb_TB ∧ ((ab_my mX23_clear).cls ≠ "java/lang/invoke/MethodHandle" ∧ (ab_my mX23_clear).cls ≠ "java/lang/invoke/VarHandle" ∧ (parseMethodDescriptor (ab_my mX23_clear).desc).map (fun d => d.parameters.length) = some 0) := ⟨(hb_w1 20 (by decide +kernel)), by decide +kernel⟩
theorem ci_mX23_clear : Cond.instanceMethod (ab_my mX23_clear) ∈ hb_TB := (hb_w12 196 (by decide +kernel))
theorem cs_mX23_clear : Cond.selects (ab_my mX23_clear).cls (ab_my mX23_clear) (ab_my mX23_clear) ∈ hb_TB := (hb_w12 197 (by decide +kernel))
theorem ca_mL_drop : Cond.initialized (ab_my mL_drop).cls ∈ hb_TB ∧ ((ab_my mL_drop).cls ≠ "java/lang/invoke/MethodHandle" ∧ (ab_my mL_drop).cls ≠ "java/lang/invoke/VarHandle" ∧ (parseMethodDescriptor (ab_my mL_drop).desc).map (fun d => d.parameters.length) = some 3) := ⟨(hb_w1 0 (by decide +kernel)), by decide +kernel⟩
theorem ct_mL_drop : Cond.static (ab_my mL_drop) ∈ hb_TB := (hb_w6 120 (by decide +kernel))
theorem ca_mX23_drop : Cond.initialized (ab_my mX23_drop).cls ∈ hb_TB ∧ ((ab_my mX23_drop).cls ≠ "java/lang/invoke/MethodHandle" ∧ (ab_my mX23_drop).cls ≠ "java/lang/invoke/VarHandle" ∧ (parseMethodDescriptor (ab_my mX23_drop).desc).map (fun d => d.parameters.length) = some 1) := ⟨(hb_w1 20 (by decide +kernel)), by decide +kernel⟩
theorem ci_mX23_drop : Cond.instanceMethod (ab_my mX23_drop) ∈ hb_TB := (hb_w12 200 (by decide +kernel))
theorem cs_mX23_drop : Cond.selects (ab_my mX23_drop).cls (ab_my mX23_drop) (ab_my mX23_drop) ∈ hb_TB := (hb_w12 201 (by decide +kernel))
theorem ca_mL_set : Cond.initialized (ab_my mL_set).cls ∈ hb_TB ∧ ((ab_my mL_set).cls ≠ "java/lang/invoke/MethodHandle" ∧ (ab_my mL_set).cls ≠ "java/lang/invoke/VarHandle" ∧ (parseMethodDescriptor (ab_my mL_set).desc).map (fun d => d.parameters.length) = some 4) := ⟨(hb_w1 0 (by decide +kernel)), by decide +kernel⟩
theorem ct_mL_set : Cond.static (ab_my mL_set) ∈ hb_TB := (hb_w6 129 (by decide +kernel))
theorem ca_mX23_set : Cond.initialized (ab_my mX23_set).cls ∈ hb_TB ∧ ((ab_my mX23_set).cls ≠ "java/lang/invoke/MethodHandle" ∧ (ab_my mX23_set).cls ≠ "java/lang/invoke/VarHandle" ∧ (parseMethodDescriptor (ab_my mX23_set).desc).map (fun d => d.parameters.length) = some 2) := ⟨(hb_w1 20 (by decide +kernel)), by decide +kernel⟩
theorem ci_mX23_set : Cond.instanceMethod (ab_my mX23_set) ∈ hb_TB := (hb_w12 204 (by decide +kernel))
theorem cs_mX23_set : Cond.selects (ab_my mX23_set).cls (ab_my mX23_set) (ab_my mX23_set) ∈ hb_TB := (hb_w12 205 (by decide +kernel))
theorem ca_mL_count : Cond.initialized (ab_my mL_count).cls ∈ hb_TB ∧ ((ab_my mL_count).cls ≠ "java/lang/invoke/MethodHandle" ∧ (ab_my mL_count).cls ≠ "java/lang/invoke/VarHandle" ∧ (parseMethodDescriptor (ab_my mL_count).desc).map (fun d => d.parameters.length) = some 3) := ⟨(hb_w1 0 (by decide +kernel)), by decide +kernel⟩
theorem ct_mL_count : Cond.static (ab_my mL_count) ∈ hb_TB := (hb_w6 137 (by decide +kernel))
theorem ca_mX23_count : Cond.initialized (ab_my mX23_count).cls ∈ hb_TB ∧ ((ab_my mX23_count).cls ≠ "java/lang/invoke/MethodHandle" ∧ (ab_my mX23_count).cls ≠ "java/lang/invoke/VarHandle" ∧ (parseMethodDescriptor (ab_my mX23_count).desc).map (fun d => d.parameters.length) = some 1) := ⟨(hb_w1 20 (by decide +kernel)), by decide +kernel⟩
theorem ci_mX23_count : Cond.instanceMethod (ab_my mX23_count) ∈ hb_TB := (hb_w12 209 (by decide +kernel))
theorem cs_mX23_count : Cond.selects (ab_my mX23_count).cls (ab_my mX23_count) (ab_my mX23_count) ∈ hb_TB := (hb_w12 210 (by decide +kernel))
theorem ca_mL_below : Cond.initialized (ab_my mL_below).cls ∈ hb_TB ∧ ((ab_my mL_below).cls ≠ "java/lang/invoke/MethodHandle" ∧ (ab_my mL_below).cls ≠ "java/lang/invoke/VarHandle" ∧ (parseMethodDescriptor (ab_my mL_below).desc).map (fun d => d.parameters.length) = some 4) := ⟨(hb_w1 0 (by decide +kernel)), by decide +kernel⟩
theorem ct_mL_below : Cond.static (ab_my mL_below) ∈ hb_TB := (hb_w6 144 (by decide +kernel))
theorem ca_mX23_below : Cond.initialized (ab_my mX23_below).cls ∈ hb_TB ∧ ((ab_my mX23_below).cls ≠ "java/lang/invoke/MethodHandle" ∧ (ab_my mX23_below).cls ≠ "java/lang/invoke/VarHandle" ∧ (parseMethodDescriptor (ab_my mX23_below).desc).map (fun d => d.parameters.length) = some 2) := ⟨(hb_w1 20 (by decide +kernel)), by decide +kernel⟩
theorem ci_mX23_below : Cond.instanceMethod (ab_my mX23_below) ∈ hb_TB := (hb_w12 213 (by decide +kernel))
theorem cs_mX23_below : Cond.selects (ab_my mX23_below).cls (ab_my mX23_below) (ab_my mX23_below) ∈ hb_TB := (hb_w12 214 (by decide +kernel))
theorem ca_mL_row : Cond.initialized (ab_my mL_row).cls ∈ hb_TB ∧ ((ab_my mL_row).cls ≠ "java/lang/invoke/MethodHandle" ∧ (ab_my mL_row).cls ≠ "java/lang/invoke/VarHandle" ∧ (parseMethodDescriptor (ab_my mL_row).desc).map (fun d => d.parameters.length) = some 5) := ⟨(hb_w1 0 (by decide +kernel)), by decide +kernel⟩
theorem ct_mL_row : Cond.static (ab_my mL_row) ∈ hb_TB := (hb_w6 156 (by decide +kernel))
theorem ca_mX23_row : Cond.initialized (ab_my mX23_row).cls ∈ hb_TB ∧ ((ab_my mX23_row).cls ≠ "java/lang/invoke/MethodHandle" ∧ (ab_my mX23_row).cls ≠ "java/lang/invoke/VarHandle" ∧ (parseMethodDescriptor (ab_my mX23_row).desc).map (fun d => d.parameters.length) = some 3) := ⟨(hb_w1 20 (by decide +kernel)), by decide +kernel⟩
theorem ci_mX23_row : Cond.instanceMethod (ab_my mX23_row) ∈ hb_TB := (hb_w12 221 (by decide +kernel))
theorem cs_mX23_row : Cond.selects (ab_my mX23_row).cls (ab_my mX23_row) (ab_my mX23_row) ∈ hb_TB := (hb_w12 222 (by decide +kernel))
theorem ca_mL_nearer : Cond.initialized (ab_my mL_nearer).cls ∈ hb_TB ∧ ((ab_my mL_nearer).cls ≠ "java/lang/invoke/MethodHandle" ∧ (ab_my mL_nearer).cls ≠ "java/lang/invoke/VarHandle" ∧ (parseMethodDescriptor (ab_my mL_nearer).desc).map (fun d => d.parameters.length) = some 7) := ⟨(hb_w1 0 (by decide +kernel)), by decide +kernel⟩
theorem ct_mL_nearer : Cond.static (ab_my mL_nearer) ∈ hb_TB := (hb_w6 164 (by decide +kernel))
theorem ca_mX23_nearer_ : Cond.initialized (ab_my mX23_nearer_).cls ∈ hb_TB ∧ ((ab_my mX23_nearer_).cls ≠ "java/lang/invoke/MethodHandle" ∧ (ab_my mX23_nearer_).cls ≠ "java/lang/invoke/VarHandle" ∧ (parseMethodDescriptor (ab_my mX23_nearer_).desc).map (fun d => d.parameters.length) = some 5) := ⟨(hb_w1 20 (by decide +kernel)), by decide +kernel⟩
theorem ci_mX23_nearer_ : Cond.instanceMethod (ab_my mX23_nearer_) ∈ hb_TB := (hb_w12 225 (by decide +kernel))
theorem cs_mX23_nearer_ : Cond.selects (ab_my mX23_nearer_).cls (ab_my mX23_nearer_) (ab_my mX23_nearer_) ∈ hb_TB := (hb_w12 226 (by decide +kernel))
theorem ca_mL_call : Cond.initialized (ab_my mL_call).cls ∈ hb_TB ∧ ((ab_my mL_call).cls ≠ "java/lang/invoke/MethodHandle" ∧ (ab_my mL_call).cls ≠ "java/lang/invoke/VarHandle" ∧ (parseMethodDescriptor (ab_my mL_call).desc).map (fun d => d.parameters.length) = some 4) := ⟨(hb_w1 0 (by decide +kernel)), by decide +kernel⟩
theorem ct_mL_call : Cond.static (ab_my mL_call) ∈ hb_TB := (hb_w7 1 (by decide +kernel))
theorem ca_mX23_call_ : Cond.initialized (ab_my mX23_call_).cls ∈ hb_TB ∧ ((ab_my mX23_call_).cls ≠ "java/lang/invoke/MethodHandle" ∧ (ab_my mX23_call_).cls ≠ "java/lang/invoke/VarHandle" ∧ (parseMethodDescriptor (ab_my mX23_call_).desc).map (fun d => d.parameters.length) = some 2) := ⟨(hb_w1 20 (by decide +kernel)), by decide +kernel⟩
theorem ci_mX23_call_ : Cond.instanceMethod (ab_my mX23_call_) ∈ hb_TB := (hb_w13 43 (by decide +kernel))
theorem cs_mX23_call_ : Cond.selects (ab_my mX23_call_).cls (ab_my mX23_call_) (ab_my mX23_call_) ∈ hb_TB := (hb_w13 44 (by decide +kernel))
theorem ca_mL_run : Cond.initialized (ab_my mL_run).cls ∈ hb_TB ∧ ((ab_my mL_run).cls ≠ "java/lang/invoke/MethodHandle" ∧ (ab_my mL_run).cls ≠ "java/lang/invoke/VarHandle" ∧ (parseMethodDescriptor (ab_my mL_run).desc).map (fun d => d.parameters.length) = some 2) := ⟨(hb_w1 0 (by decide +kernel)), by decide +kernel⟩
theorem ct_mL_run : Cond.static (ab_my mL_run) ∈ hb_TB := (hb_w7 118 (by decide +kernel))
theorem ca_mX23_run : Cond.initialized (ab_my mX23_run).cls ∈ hb_TB ∧ ((ab_my mX23_run).cls ≠ "java/lang/invoke/MethodHandle" ∧ (ab_my mX23_run).cls ≠ "java/lang/invoke/VarHandle" ∧ (parseMethodDescriptor (ab_my mX23_run).desc).map (fun d => d.parameters.length) = some 0) := ⟨(hb_w1 20 (by decide +kernel)), by decide +kernel⟩
theorem ci_mX23_run : Cond.instanceMethod (ab_my mX23_run) ∈ hb_TB := (hb_w13 127 (by decide +kernel))
theorem cs_mX23_run : Cond.selects (ab_my mX23_run).cls (ab_my mX23_run) (ab_my mX23_run) ∈ hb_TB := (hb_w13 128 (by decide +kernel))
theorem ca_mL_told : Cond.initialized (ab_my mL_told).cls ∈ hb_TB ∧ ((ab_my mL_told).cls ≠ "java/lang/invoke/MethodHandle" ∧ (ab_my mL_told).cls ≠ "java/lang/invoke/VarHandle" ∧ (parseMethodDescriptor (ab_my mL_told).desc).map (fun d => d.parameters.length) = some 3) := ⟨(hb_w1 0 (by decide +kernel)), by decide +kernel⟩
theorem ct_mL_told : Cond.static (ab_my mL_told) ∈ hb_TB := (hb_w8 68 (by decide +kernel))
theorem ca_mX23_told : Cond.initialized (ab_my mX23_told).cls ∈ hb_TB ∧ ((ab_my mX23_told).cls ≠ "java/lang/invoke/MethodHandle" ∧ (ab_my mX23_told).cls ≠ "java/lang/invoke/VarHandle" ∧ (parseMethodDescriptor (ab_my mX23_told).desc).map (fun d => d.parameters.length) = some 1) := ⟨(hb_w1 20 (by decide +kernel)), by decide +kernel⟩
theorem ci_mX23_told : Cond.instanceMethod (ab_my mX23_told) ∈ hb_TB := (hb_w13 217 (by decide +kernel))
theorem cs_mX23_told : Cond.selects (ab_my mX23_told).cls (ab_my mX23_told) (ab_my mX23_told) ∈ hb_TB := (hb_w13 218 (by decide +kernel))
theorem ca_mL_shown : Cond.initialized (ab_my mL_shown).cls ∈ hb_TB ∧ ((ab_my mL_shown).cls ≠ "java/lang/invoke/MethodHandle" ∧ (ab_my mL_shown).cls ≠ "java/lang/invoke/VarHandle" ∧ (parseMethodDescriptor (ab_my mL_shown).desc).map (fun d => d.parameters.length) = some 3) := ⟨(hb_w1 0 (by decide +kernel)), by decide +kernel⟩
theorem ct_mL_shown : Cond.static (ab_my mL_shown) ∈ hb_TB := (hb_w8 76 (by decide +kernel))
theorem ca_mX23_shown : Cond.initialized (ab_my mX23_shown).cls ∈ hb_TB ∧ ((ab_my mX23_shown).cls ≠ "java/lang/invoke/MethodHandle" ∧ (ab_my mX23_shown).cls ≠ "java/lang/invoke/VarHandle" ∧ (parseMethodDescriptor (ab_my mX23_shown).desc).map (fun d => d.parameters.length) = some 1) := ⟨(hb_w1 20 (by decide +kernel)), by decide +kernel⟩
theorem ci_mX23_shown : Cond.instanceMethod (ab_my mX23_shown) ∈ hb_TB := (hb_w13 221 (by decide +kernel))
theorem cs_mX23_shown : Cond.selects (ab_my mX23_shown).cls (ab_my mX23_shown) (ab_my mX23_shown) ∈ hb_TB := (hb_w13 222 (by decide +kernel))
theorem ca_mL_ran : Cond.initialized (ab_my mL_ran).cls ∈ hb_TB ∧ ((ab_my mL_ran).cls ≠ "java/lang/invoke/MethodHandle" ∧ (ab_my mL_ran).cls ≠ "java/lang/invoke/VarHandle" ∧ (parseMethodDescriptor (ab_my mL_ran).desc).map (fun d => d.parameters.length) = some 2) := ⟨(hb_w1 0 (by decide +kernel)), by decide +kernel⟩
theorem ct_mL_ran : Cond.static (ab_my mL_ran) ∈ hb_TB := (hb_w8 83 (by decide +kernel))
theorem ca_mX23_ran : Cond.initialized (ab_my mX23_ran).cls ∈ hb_TB ∧ ((ab_my mX23_ran).cls ≠ "java/lang/invoke/MethodHandle" ∧ (ab_my mX23_ran).cls ≠ "java/lang/invoke/VarHandle" ∧ (parseMethodDescriptor (ab_my mX23_ran).desc).map (fun d => d.parameters.length) = some 0) := ⟨(hb_w1 20 (by decide +kernel)), by decide +kernel⟩
theorem ci_mX23_ran : Cond.instanceMethod (ab_my mX23_ran) ∈ hb_TB := (hb_w13 225 (by decide +kernel))
theorem cs_mX23_ran : Cond.selects (ab_my mX23_ran).cls (ab_my mX23_ran) (ab_my mX23_ran) ∈ hb_TB := (hb_w13 226 (by decide +kernel))
theorem ca_mL_word : Cond.initialized (ab_my mL_word).cls ∈ hb_TB ∧ ((ab_my mL_word).cls ≠ "java/lang/invoke/MethodHandle" ∧ (ab_my mL_word).cls ≠ "java/lang/invoke/VarHandle" ∧ (parseMethodDescriptor (ab_my mL_word).desc).map (fun d => d.parameters.length) = some 3) := ⟨(hb_w1 0 (by decide +kernel)), by decide +kernel⟩
theorem ct_mL_word : Cond.static (ab_my mL_word) ∈ hb_TB := (hb_w8 91 (by decide +kernel))
theorem ca_mX23_word__ : Cond.initialized (ab_my mX23_word__).cls ∈ hb_TB ∧ ((ab_my mX23_word__).cls ≠ "java/lang/invoke/MethodHandle" ∧ (ab_my mX23_word__).cls ≠ "java/lang/invoke/VarHandle" ∧ (parseMethodDescriptor (ab_my mX23_word__).desc).map (fun d => d.parameters.length) = some 1) := ⟨(hb_w1 20 (by decide +kernel)), by decide +kernel⟩
theorem ci_mX23_word__ : Cond.instanceMethod (ab_my mX23_word__) ∈ hb_TB := (hb_w13 229 (by decide +kernel))
theorem cs_mX23_word__ : Cond.selects (ab_my mX23_word__).cls (ab_my mX23_word__) (ab_my mX23_word__) ∈ hb_TB := (hb_w13 230 (by decide +kernel))
theorem ca_obj : Cond.instanceMethod objectInit ∈ hb_TB ∧ Cond.code objectInit ⟨#[0xb1]⟩ 1 none ∈ hb_TB := ⟨(hb_w1 52 (by decide +kernel)), (hb_w1 53 (by decide +kernel))⟩
theorem ca_cpy : Cond.native arraycopyName ∈ hb_TB ∧ Cond.static arraycopyName ∈ hb_TB ∧ Cond.initialized "java/lang/System" ∈ hb_TB := ⟨(hb_w5 21 (by decide +kernel)), (hb_w5 20 (by decide +kernel)), (hb_w1 37 (by decide +kernel))⟩
theorem ca_m7 : Cond.static Lib.Math.max.name ∈ hb_TB ∧ Cond.initialized "java/lang/Math" ∈ hb_TB ∧ Cond.code Lib.Math.max.name Lib.Math.max.code 2 (some .int) ∈ hb_TB := ⟨(hb_w4 158 (by decide +kernel)), (hb_w1 36 (by decide +kernel)), (hb_w4 159 (by decide +kernel))⟩
theorem ca_m8 : Cond.static Lib.Math.min.name ∈ hb_TB ∧ Cond.initialized "java/lang/Math" ∈ hb_TB ∧ Cond.code Lib.Math.min.name Lib.Math.min.code 2 (some .int) ∈ hb_TB := ⟨(hb_w4 211 (by decide +kernel)), (hb_w1 36 (by decide +kernel)), (hb_w4 212 (by decide +kernel))⟩
theorem ca_m9 : Cond.static Lib.MathLoose.min_long.x ∈ hb_TB ∧ Cond.initialized "java/lang/Math" ∈ hb_TB ∧ Cond.code Lib.MathLoose.min_long.x Lib.MathLoose.min_long.code 4 (some .long) ∈ hb_TB := ⟨(hb_w4 171 (by decide +kernel)), (hb_w1 36 (by decide +kernel)), (hb_w4 172 (by decide +kernel))⟩
theorem hb_T0_ok (O : Nat → Option FieldType) (X : ab_X) : ∀ (ix sort y na ci : Nat), hb_T0 ix = some (sort, y, na, ci) → ∀ M : ab_MI, ab_mo M = 0 → (ab_my M).cls = RX0 →
    (sort = 4 → Cond.methodLink (ab_my M).cls ix objectInit ∈ hb_TB ∧ Cond.instanceMethod objectInit ∈ hb_TB ∧ Cond.code objectInit ⟨#[0xb1]⟩ 1 none ∈ hb_TB) ∧
    (sort = 5 → Cond.methodLink (ab_my M).cls ix arraycopyName ∈ hb_TB ∧ Cond.native arraycopyName ∈ hb_TB ∧ Cond.static arraycopyName ∈ hb_TB ∧ Cond.initialized "java/lang/System" ∈ hb_TB) ∧
    (sort = 7 → Cond.methodLink (ab_my M).cls ix Lib.Math.max.name ∈ hb_TB ∧ Cond.static Lib.Math.max.name ∈ hb_TB ∧ Cond.initialized "java/lang/Math" ∈ hb_TB ∧ Cond.code Lib.Math.max.name Lib.Math.max.code 2 (some .int) ∈ hb_TB) ∧
    (sort = 8 → Cond.methodLink (ab_my M).cls ix Lib.Math.min.name ∈ hb_TB ∧ Cond.static Lib.Math.min.name ∈ hb_TB ∧ Cond.initialized "java/lang/Math" ∈ hb_TB ∧ Cond.code Lib.Math.min.name Lib.Math.min.code 2 (some .int) ∈ hb_TB) ∧
    (sort = 9 → Cond.methodLink (ab_my M).cls ix Lib.MathLoose.min_long.x ∈ hb_TB ∧ Cond.static Lib.MathLoose.min_long.x ∈ hb_TB ∧ Cond.initialized "java/lang/Math" ∈ hb_TB ∧ Cond.code Lib.MathLoose.min_long.x Lib.MathLoose.min_long.code 4 (some .long) ∈ hb_TB) ∧
    (sort < 4 ∨ sort = 6 → ∀ M' : ab_MI, ab_gM (hb_Gx O X) y = some M' → (sort ≠ 3 → Cond.methodLink (ab_my M).cls ix (ab_my M') ∈ hb_TB) ∧ Cond.initialized (ab_my M').cls ∈ hb_TB ∧ ((ab_my M').cls ≠ "java/lang/invoke/MethodHandle" ∧ (ab_my M').cls ≠ "java/lang/invoke/VarHandle" ∧ (parseMethodDescriptor (ab_my M').desc).map (fun d => d.parameters.length) = some na) ∧
      (sort = 0 → Cond.instanceMethod (ab_my M') ∈ hb_TB ∧ Cond.selects (ab_my M').cls (ab_my M') (ab_my M') ∈ hb_TB ∧ ∃ q : vw_C, (ab_gK (hb_Gx O X))[ci]? = some q ∧ q.1 = (ab_my M').cls) ∧
      (sort = 1 → Cond.static (ab_my M') ∈ hb_TB) ∧
      (sort = 6 → Cond.instanceMethod (ab_my M') ∈ hb_TB ∧ Cond.selects (ab_my M').cls (ab_my M') (ab_my M') ∈ hb_TB ∧ (ab_my M').cls = "java/lang/String") ∧
      (sort = 2 ∨ sort = 3 → (ab_my M').name = "<init>" ∧ Cond.instanceMethod (ab_my M') ∈ hb_TB ∧ ab_mr M' = none)) := by
  intro ix sort y na ci h M _ hcl
  rw [hcl]
  unfold hb_T0 at h
  split at h
  · cases h
    exact ⟨fun _ => ⟨(hb_w3 215 (by decide +kernel)), ca_obj.1, ca_obj.2⟩, fun h => absurd h (by decide), fun h => absurd h (by decide), fun h => absurd h (by decide), fun h => absurd h (by decide), fun h => absurd h (by decide)⟩
  · cases h
    refine ⟨fun h => absurd h (by decide), fun h => absurd h (by decide), fun h => absurd h (by decide), fun h => absurd h (by decide), fun h => absurd h (by decide), fun _ M' hM' => ?_⟩
    obtain rfl : mX4_kindOf = M' := Option.some.inj ((show ab_gM (hb_Gx O X) 1025 = some mX4_kindOf from rfl).symm.trans hM')
    exact ⟨fun _ => (hb_w7 165 (by decide +kernel)), ca_mX4_kindOf.1, ca_mX4_kindOf.2, fun h => absurd h (by decide), fun _ => ct_mX4_kindOf, fun h => absurd h (by decide), fun h => absurd h (by decide)⟩
  · cases h
    refine ⟨fun h => absurd h (by decide), fun h => absurd h (by decide), fun h => absurd h (by decide), fun h => absurd h (by decide), fun h => absurd h (by decide), fun _ M' hM' => ?_⟩
    obtain rfl : mX3_looksFor = M' := Option.some.inj ((show ab_gM (hb_Gx O X) 773 = some mX3_looksFor from rfl).symm.trans hM')
    exact ⟨fun _ => (hb_w7 168 (by decide +kernel)), ca_mX3_looksFor.1, ca_mX3_looksFor.2, fun _ => ⟨ci_mX3_looksFor, cs_mX3_looksFor, _, rfl, rfl⟩, fun h => absurd h (by decide), fun h => absurd h (by decide), fun h => absurd h (by decide)⟩
  · cases h
    refine ⟨fun h => absurd h (by decide), fun h => absurd h (by decide), fun h => absurd h (by decide), fun h => absurd h (by decide), fun h => absurd h (by decide), fun _ M' hM' => ?_⟩
    obtain rfl : mX0_gatherApplying = M' := Option.some.inj ((show ab_gM (hb_Gx O X) 6 = some mX0_gatherApplying from rfl).symm.trans hM')
    exact ⟨fun _ => (hb_w7 177 (by decide +kernel)), ca_mX0_gatherApplying.1, ca_mX0_gatherApplying.2, fun _ => ⟨ci_mX0_gatherApplying, cs_mX0_gatherApplying, _, rfl, rfl⟩, fun h => absurd h (by decide), fun h => absurd h (by decide), fun h => absurd h (by decide)⟩
  · cases h
    refine ⟨fun h => absurd h (by decide), fun h => absurd h (by decide), fun h => absurd h (by decide), fun h => absurd h (by decide), fun h => absurd h (by decide), fun _ M' hM' => ?_⟩
    obtain rfl : mX0_isLaid = M' := Option.some.inj ((show ab_gM (hb_Gx O X) 5 = some mX0_isLaid from rfl).symm.trans hM')
    exact ⟨fun _ => (hb_w7 195 (by decide +kernel)), ca_mX0_isLaid.1, ca_mX0_isLaid.2, fun _ => ⟨ci_mX0_isLaid, cs_mX0_isLaid, _, rfl, rfl⟩, fun h => absurd h (by decide), fun h => absurd h (by decide), fun h => absurd h (by decide)⟩
  · cases h
    refine ⟨fun h => absurd h (by decide), fun h => absurd h (by decide), fun h => absurd h (by decide), fun h => absurd h (by decide), fun h => absurd h (by decide), fun _ M' hM' => ?_⟩
    obtain rfl : mX0_gatherGroup = M' := Option.some.inj ((show ab_gM (hb_Gx O X) 10 = some mX0_gatherGroup from rfl).symm.trans hM')
    exact ⟨fun _ => (hb_w7 199 (by decide +kernel)), ca_mX0_gatherGroup.1, ca_mX0_gatherGroup.2, fun _ => ⟨ci_mX0_gatherGroup, cs_mX0_gatherGroup, _, rfl, rfl⟩, fun h => absurd h (by decide), fun h => absurd h (by decide), fun h => absurd h (by decide)⟩
  · cases h
    refine ⟨fun h => absurd h (by decide), fun h => absurd h (by decide), fun h => absurd h (by decide), fun h => absurd h (by decide), fun h => absurd h (by decide), fun _ M' hM' => ?_⟩
    obtain rfl : mX0_layGroup = M' := Option.some.inj ((show ab_gM (hb_Gx O X) 11 = some mX0_layGroup from rfl).symm.trans hM')
    exact ⟨fun _ => (hb_w7 203 (by decide +kernel)), ca_mX0_layGroup.1, ca_mX0_layGroup.2, fun _ => ⟨ci_mX0_layGroup, cs_mX0_layGroup, _, rfl, rfl⟩, fun h => absurd h (by decide), fun h => absurd h (by decide), fun h => absurd h (by decide)⟩
  · cases h
    refine ⟨fun h => absurd h (by decide), fun h => absurd h (by decide), fun h => absurd h (by decide), fun h => absurd h (by decide), fun h => absurd h (by decide), fun _ M' hM' => ?_⟩
    obtain rfl : mX11_listFor = M' := Option.some.inj ((show ab_gM (hb_Gx O X) 2828 = some mX11_listFor from rfl).symm.trans hM')
    exact ⟨fun _ => (hb_w7 181 (by decide +kernel)), ca_mX11_listFor.1, ca_mX11_listFor.2, fun _ => ⟨ci_mX11_listFor, cs_mX11_listFor, _, rfl, rfl⟩, fun h => absurd h (by decide), fun h => absurd h (by decide), fun h => absurd h (by decide)⟩
  · cases h
    refine ⟨fun h => absurd h (by decide), fun h => absurd h (by decide), fun h => absurd h (by decide), fun h => absurd h (by decide), fun h => absurd h (by decide), fun _ M' hM' => ?_⟩
    obtain rfl : mX0_isOn = M' := Option.some.inj ((show ab_gM (hb_Gx O X) 7 = some mX0_isOn from rfl).symm.trans hM')
    exact ⟨fun _ => (hb_w7 182 (by decide +kernel)), ca_mX0_isOn.1, ca_mX0_isOn.2, fun h => absurd h (by decide), fun _ => ct_mX0_isOn, fun h => absurd h (by decide), fun h => absurd h (by decide)⟩
  · cases h
    refine ⟨fun h => absurd h (by decide), fun h => absurd h (by decide), fun h => absurd h (by decide), fun h => absurd h (by decide), fun h => absurd h (by decide), fun _ M' hM' => ?_⟩
    obtain rfl : mX0_takes = M' := Option.some.inj ((show ab_gM (hb_Gx O X) 8 = some mX0_takes from rfl).symm.trans hM')
    exact ⟨fun _ => (hb_w7 186 (by decide +kernel)), ca_mX0_takes.1, ca_mX0_takes.2, fun _ => ⟨ci_mX0_takes, cs_mX0_takes, _, rfl, rfl⟩, fun h => absurd h (by decide), fun h => absurd h (by decide), fun h => absurd h (by decide)⟩
  · cases h
    refine ⟨fun h => absurd h (by decide), fun h => absurd h (by decide), fun h => absurd h (by decide), fun h => absurd h (by decide), fun h => absurd h (by decide), fun _ M' hM' => ?_⟩
    obtain rfl : mX0_holds = M' := Option.some.inj ((show ab_gM (hb_Gx O X) 9 = some mX0_holds from rfl).symm.trans hM')
    exact ⟨fun _ => (hb_w7 190 (by decide +kernel)), ca_mX0_holds.1, ca_mX0_holds.2, fun _ => ⟨ci_mX0_holds, cs_mX0_holds, _, rfl, rfl⟩, fun h => absurd h (by decide), fun h => absurd h (by decide), fun h => absurd h (by decide)⟩
  · cases h
    refine ⟨fun h => absurd h (by decide), fun h => absurd h (by decide), fun h => absurd h (by decide), fun h => absurd h (by decide), fun h => absurd h (by decide), fun _ M' hM' => ?_⟩
    obtain rfl : mX2_isBelow = M' := Option.some.inj ((show ab_gM (hb_Gx O X) 513 = some mX2_isBelow from rfl).symm.trans hM')
    exact ⟨fun _ => (hb_w7 194 (by decide +kernel)), ca_mX2_isBelow.1, ca_mX2_isBelow.2, fun _ => ⟨ci_mX2_isBelow, cs_mX2_isBelow, _, rfl, rfl⟩, fun h => absurd h (by decide), fun h => absurd h (by decide), fun h => absurd h (by decide)⟩
  · cases h
    refine ⟨fun h => absurd h (by decide), fun h => absurd h (by decide), fun h => absurd h (by decide), fun h => absurd h (by decide), fun h => absurd h (by decide), fun _ M' hM' => ?_⟩
    obtain rfl : mX6_compare = M' := Option.some.inj ((show ab_gM (hb_Gx O X) 1538 = some mX6_compare from rfl).symm.trans hM')
    exact ⟨fun _ => (hb_w7 207 (by decide +kernel)), ca_mX6_compare.1, ca_mX6_compare.2, fun _ => ⟨ci_mX6_compare, cs_mX6_compare, _, rfl, rfl⟩, fun h => absurd h (by decide), fun h => absurd h (by decide), fun h => absurd h (by decide)⟩
  · cases h
    refine ⟨fun h => absurd h (by decide), fun h => absurd h (by decide), fun h => absurd h (by decide), fun h => absurd h (by decide), fun h => absurd h (by decide), fun _ M' hM' => ?_⟩
    obtain rfl : mX0_pickNext = M' := Option.some.inj ((show ab_gM (hb_Gx O X) 12 = some mX0_pickNext from rfl).symm.trans hM')
    exact ⟨fun _ => (hb_w7 208 (by decide +kernel)), ca_mX0_pickNext.1, ca_mX0_pickNext.2, fun _ => ⟨ci_mX0_pickNext, cs_mX0_pickNext, _, rfl, rfl⟩, fun h => absurd h (by decide), fun h => absurd h (by decide), fun h => absurd h (by decide)⟩
  · cases h
theorem hb_T1_ok (O : Nat → Option FieldType) (X : ab_X) : ∀ (ix sort y na ci : Nat), hb_T1 ix = some (sort, y, na, ci) → ∀ M : ab_MI, ab_mo M = 1 → (ab_my M).cls = RX1 →
    (sort = 4 → Cond.methodLink (ab_my M).cls ix objectInit ∈ hb_TB ∧ Cond.instanceMethod objectInit ∈ hb_TB ∧ Cond.code objectInit ⟨#[0xb1]⟩ 1 none ∈ hb_TB) ∧
    (sort = 5 → Cond.methodLink (ab_my M).cls ix arraycopyName ∈ hb_TB ∧ Cond.native arraycopyName ∈ hb_TB ∧ Cond.static arraycopyName ∈ hb_TB ∧ Cond.initialized "java/lang/System" ∈ hb_TB) ∧
    (sort = 7 → Cond.methodLink (ab_my M).cls ix Lib.Math.max.name ∈ hb_TB ∧ Cond.static Lib.Math.max.name ∈ hb_TB ∧ Cond.initialized "java/lang/Math" ∈ hb_TB ∧ Cond.code Lib.Math.max.name Lib.Math.max.code 2 (some .int) ∈ hb_TB) ∧
    (sort = 8 → Cond.methodLink (ab_my M).cls ix Lib.Math.min.name ∈ hb_TB ∧ Cond.static Lib.Math.min.name ∈ hb_TB ∧ Cond.initialized "java/lang/Math" ∈ hb_TB ∧ Cond.code Lib.Math.min.name Lib.Math.min.code 2 (some .int) ∈ hb_TB) ∧
    (sort = 9 → Cond.methodLink (ab_my M).cls ix Lib.MathLoose.min_long.x ∈ hb_TB ∧ Cond.static Lib.MathLoose.min_long.x ∈ hb_TB ∧ Cond.initialized "java/lang/Math" ∈ hb_TB ∧ Cond.code Lib.MathLoose.min_long.x Lib.MathLoose.min_long.code 4 (some .long) ∈ hb_TB) ∧
    (sort < 4 ∨ sort = 6 → ∀ M' : ab_MI, ab_gM (hb_Gx O X) y = some M' → (sort ≠ 3 → Cond.methodLink (ab_my M).cls ix (ab_my M') ∈ hb_TB) ∧ Cond.initialized (ab_my M').cls ∈ hb_TB ∧ ((ab_my M').cls ≠ "java/lang/invoke/MethodHandle" ∧ (ab_my M').cls ≠ "java/lang/invoke/VarHandle" ∧ (parseMethodDescriptor (ab_my M').desc).map (fun d => d.parameters.length) = some na) ∧
      (sort = 0 → Cond.instanceMethod (ab_my M') ∈ hb_TB ∧ Cond.selects (ab_my M').cls (ab_my M') (ab_my M') ∈ hb_TB ∧ ∃ q : vw_C, (ab_gK (hb_Gx O X))[ci]? = some q ∧ q.1 = (ab_my M').cls) ∧
      (sort = 1 → Cond.static (ab_my M') ∈ hb_TB) ∧
      (sort = 6 → Cond.instanceMethod (ab_my M') ∈ hb_TB ∧ Cond.selects (ab_my M').cls (ab_my M') (ab_my M') ∈ hb_TB ∧ (ab_my M').cls = "java/lang/String") ∧
      (sort = 2 ∨ sort = 3 → (ab_my M').name = "<init>" ∧ Cond.instanceMethod (ab_my M') ∈ hb_TB ∧ ab_mr M' = none)) := by
  intro ix sort y na ci h M _ hcl
  rw [hcl]
  unfold hb_T1 at h
  split at h
  · cases h
    exact ⟨fun _ => ⟨(hb_w1 195 (by decide +kernel)), ca_obj.1, ca_obj.2⟩, fun h => absurd h (by decide), fun h => absurd h (by decide), fun h => absurd h (by decide), fun h => absurd h (by decide), fun h => absurd h (by decide)⟩
  · cases h
    exact ⟨fun h => absurd h (by decide), fun h => absurd h (by decide), fun _ => ⟨(hb_w5 129 (by decide +kernel)), ca_m7⟩, fun h => absurd h (by decide), fun h => absurd h (by decide), fun h => absurd h (by decide)⟩
  · cases h
    refine ⟨fun h => absurd h (by decide), fun h => absurd h (by decide), fun h => absurd h (by decide), fun h => absurd h (by decide), fun h => absurd h (by decide), fun _ M' hM' => ?_⟩
    obtain rfl : mJ7_copyOf_59c91 = M' := Option.some.inj ((show ab_gM (hb_Gx O X) 11269 = some mJ7_copyOf_59c91 from rfl).symm.trans hM')
    exact ⟨fun _ => (hb_w5 130 (by decide +kernel)), ca_mJ7_copyOf_59c91.1, ca_mJ7_copyOf_59c91.2, fun h => absurd h (by decide), fun _ => ct_mJ7_copyOf_59c91, fun h => absurd h (by decide), fun h => absurd h (by decide)⟩
  · cases h
theorem hb_T2_ok (O : Nat → Option FieldType) (X : ab_X) : ∀ (ix sort y na ci : Nat), hb_T2 ix = some (sort, y, na, ci) → ∀ M : ab_MI, ab_mo M = 2 → (ab_my M).cls = RX2 →
    (sort = 4 → Cond.methodLink (ab_my M).cls ix objectInit ∈ hb_TB ∧ Cond.instanceMethod objectInit ∈ hb_TB ∧ Cond.code objectInit ⟨#[0xb1]⟩ 1 none ∈ hb_TB) ∧
    (sort = 5 → Cond.methodLink (ab_my M).cls ix arraycopyName ∈ hb_TB ∧ Cond.native arraycopyName ∈ hb_TB ∧ Cond.static arraycopyName ∈ hb_TB ∧ Cond.initialized "java/lang/System" ∈ hb_TB) ∧
    (sort = 7 → Cond.methodLink (ab_my M).cls ix Lib.Math.max.name ∈ hb_TB ∧ Cond.static Lib.Math.max.name ∈ hb_TB ∧ Cond.initialized "java/lang/Math" ∈ hb_TB ∧ Cond.code Lib.Math.max.name Lib.Math.max.code 2 (some .int) ∈ hb_TB) ∧
    (sort = 8 → Cond.methodLink (ab_my M).cls ix Lib.Math.min.name ∈ hb_TB ∧ Cond.static Lib.Math.min.name ∈ hb_TB ∧ Cond.initialized "java/lang/Math" ∈ hb_TB ∧ Cond.code Lib.Math.min.name Lib.Math.min.code 2 (some .int) ∈ hb_TB) ∧
    (sort = 9 → Cond.methodLink (ab_my M).cls ix Lib.MathLoose.min_long.x ∈ hb_TB ∧ Cond.static Lib.MathLoose.min_long.x ∈ hb_TB ∧ Cond.initialized "java/lang/Math" ∈ hb_TB ∧ Cond.code Lib.MathLoose.min_long.x Lib.MathLoose.min_long.code 4 (some .long) ∈ hb_TB) ∧
    (sort < 4 ∨ sort = 6 → ∀ M' : ab_MI, ab_gM (hb_Gx O X) y = some M' → (sort ≠ 3 → Cond.methodLink (ab_my M).cls ix (ab_my M') ∈ hb_TB) ∧ Cond.initialized (ab_my M').cls ∈ hb_TB ∧ ((ab_my M').cls ≠ "java/lang/invoke/MethodHandle" ∧ (ab_my M').cls ≠ "java/lang/invoke/VarHandle" ∧ (parseMethodDescriptor (ab_my M').desc).map (fun d => d.parameters.length) = some na) ∧
      (sort = 0 → Cond.instanceMethod (ab_my M') ∈ hb_TB ∧ Cond.selects (ab_my M').cls (ab_my M') (ab_my M') ∈ hb_TB ∧ ∃ q : vw_C, (ab_gK (hb_Gx O X))[ci]? = some q ∧ q.1 = (ab_my M').cls) ∧
      (sort = 1 → Cond.static (ab_my M') ∈ hb_TB) ∧
      (sort = 6 → Cond.instanceMethod (ab_my M') ∈ hb_TB ∧ Cond.selects (ab_my M').cls (ab_my M') (ab_my M') ∈ hb_TB ∧ (ab_my M').cls = "java/lang/String") ∧
      (sort = 2 ∨ sort = 3 → (ab_my M').name = "<init>" ∧ Cond.instanceMethod (ab_my M') ∈ hb_TB ∧ ab_mr M' = none)) := by
  intro ix sort y na ci h M _ hcl
  rw [hcl]
  unfold hb_T2 at h
  split at h
  · cases h
    exact ⟨fun _ => ⟨(hb_w1 65 (by decide +kernel)), ca_obj.1, ca_obj.2⟩, fun h => absurd h (by decide), fun h => absurd h (by decide), fun h => absurd h (by decide), fun h => absurd h (by decide), fun h => absurd h (by decide)⟩
  · cases h
    refine ⟨fun h => absurd h (by decide), fun h => absurd h (by decide), fun h => absurd h (by decide), fun h => absurd h (by decide), fun h => absurd h (by decide), fun _ M' hM' => ?_⟩
    obtain rfl : mJ6_bitCount_0f7a4 = M' := Option.some.inj ((show ab_gM (hb_Gx O X) 8450 = some mJ6_bitCount_0f7a4 from rfl).symm.trans hM')
    exact ⟨fun _ => (hb_w2 51 (by decide +kernel)), ca_mJ6_bitCount_0f7a4.1, ca_mJ6_bitCount_0f7a4.2, fun h => absurd h (by decide), fun _ => ct_mJ6_bitCount_0f7a4, fun h => absurd h (by decide), fun h => absurd h (by decide)⟩
  · cases h
    refine ⟨fun h => absurd h (by decide), fun h => absurd h (by decide), fun h => absurd h (by decide), fun h => absurd h (by decide), fun h => absurd h (by decide), fun _ M' hM' => ?_⟩
    obtain rfl : mX2_merge = M' := Option.some.inj ((show ab_gM (hb_Gx O X) 520 = some mX2_merge from rfl).symm.trans hM')
    exact ⟨fun _ => (hb_w2 57 (by decide +kernel)), ca_mX2_merge.1, ca_mX2_merge.2, fun _ => ⟨ci_mX2_merge, cs_mX2_merge, _, rfl, rfl⟩, fun h => absurd h (by decide), fun h => absurd h (by decide), fun h => absurd h (by decide)⟩
  · cases h
    refine ⟨fun h => absurd h (by decide), fun h => absurd h (by decide), fun h => absurd h (by decide), fun h => absurd h (by decide), fun h => absurd h (by decide), fun _ M' hM' => ?_⟩
    obtain rfl : mX2_joinByFirst = M' := Option.some.inj ((show ab_gM (hb_Gx O X) 525 = some mX2_joinByFirst from rfl).symm.trans hM')
    exact ⟨fun _ => (hb_w2 84 (by decide +kernel)), ca_mX2_joinByFirst.1, ca_mX2_joinByFirst.2, fun _ => ⟨ci_mX2_joinByFirst, cs_mX2_joinByFirst, _, rfl, rfl⟩, fun h => absurd h (by decide), fun h => absurd h (by decide), fun h => absurd h (by decide)⟩
  · cases h
    refine ⟨fun h => absurd h (by decide), fun h => absurd h (by decide), fun h => absurd h (by decide), fun h => absurd h (by decide), fun h => absurd h (by decide), fun _ M' hM' => ?_⟩
    obtain rfl : mX2_joinByLast = M' := Option.some.inj ((show ab_gM (hb_Gx O X) 526 = some mX2_joinByLast from rfl).symm.trans hM')
    exact ⟨fun _ => (hb_w2 92 (by decide +kernel)), ca_mX2_joinByLast.1, ca_mX2_joinByLast.2, fun _ => ⟨ci_mX2_joinByLast, cs_mX2_joinByLast, _, rfl, rfl⟩, fun h => absurd h (by decide), fun h => absurd h (by decide), fun h => absurd h (by decide)⟩
  · cases h
    refine ⟨fun h => absurd h (by decide), fun h => absurd h (by decide), fun h => absurd h (by decide), fun h => absurd h (by decide), fun h => absurd h (by decide), fun _ M' hM' => ?_⟩
    obtain rfl : mX2_inRow = M' := Option.some.inj ((show ab_gM (hb_Gx O X) 514 = some mX2_inRow from rfl).symm.trans hM')
    exact ⟨fun _ => (hb_w2 88 (by decide +kernel)), ca_mX2_inRow.1, ca_mX2_inRow.2, fun _ => ⟨ci_mX2_inRow, cs_mX2_inRow, _, rfl, rfl⟩, fun h => absurd h (by decide), fun h => absurd h (by decide), fun h => absurd h (by decide)⟩
  · cases h
    refine ⟨fun h => absurd h (by decide), fun h => absurd h (by decide), fun h => absurd h (by decide), fun h => absurd h (by decide), fun h => absurd h (by decide), fun _ M' hM' => ?_⟩
    obtain rfl : mJ7_fill_53178 = M' := Option.some.inj ((show ab_gM (hb_Gx O X) 11265 = some mJ7_fill_53178 from rfl).symm.trans hM')
    exact ⟨fun _ => (hb_w2 61 (by decide +kernel)), ca_mJ7_fill_53178.1, ca_mJ7_fill_53178.2, fun h => absurd h (by decide), fun _ => ct_mJ7_fill_53178, fun h => absurd h (by decide), fun h => absurd h (by decide)⟩
  · cases h
    refine ⟨fun h => absurd h (by decide), fun h => absurd h (by decide), fun h => absurd h (by decide), fun h => absurd h (by decide), fun h => absurd h (by decide), fun _ M' hM' => ?_⟩
    obtain rfl : mX2_putInRow = M' := Option.some.inj ((show ab_gM (hb_Gx O X) 519 = some mX2_putInRow from rfl).symm.trans hM')
    exact ⟨fun _ => (hb_w2 64 (by decide +kernel)), ca_mX2_putInRow.1, ca_mX2_putInRow.2, fun _ => ⟨ci_mX2_putInRow, cs_mX2_putInRow, _, rfl, rfl⟩, fun h => absurd h (by decide), fun h => absurd h (by decide), fun h => absurd h (by decide)⟩
  · cases h
    refine ⟨fun h => absurd h (by decide), fun h => absurd h (by decide), fun h => absurd h (by decide), fun h => absurd h (by decide), fun h => absurd h (by decide), fun _ M' hM' => ?_⟩
    obtain rfl : mX2_firstFreeHead = M' := Option.some.inj ((show ab_gM (hb_Gx O X) 523 = some mX2_firstFreeHead from rfl).symm.trans hM')
    exact ⟨fun _ => (hb_w2 68 (by decide +kernel)), ca_mX2_firstFreeHead.1, ca_mX2_firstFreeHead.2, fun _ => ⟨ci_mX2_firstFreeHead, cs_mX2_firstFreeHead, _, rfl, rfl⟩, fun h => absurd h (by decide), fun h => absurd h (by decide), fun h => absurd h (by decide)⟩
  · cases h
    refine ⟨fun h => absurd h (by decide), fun h => absurd h (by decide), fun h => absurd h (by decide), fun h => absurd h (by decide), fun h => absurd h (by decide), fun _ M' hM' => ?_⟩
    obtain rfl : mX2_listLength = M' := Option.some.inj ((show ab_gM (hb_Gx O X) 521 = some mX2_listLength from rfl).symm.trans hM')
    exact ⟨fun _ => (hb_w2 72 (by decide +kernel)), ca_mX2_listLength.1, ca_mX2_listLength.2, fun _ => ⟨ci_mX2_listLength, cs_mX2_listLength, _, rfl, rfl⟩, fun h => absurd h (by decide), fun h => absurd h (by decide), fun h => absurd h (by decide)⟩
  · cases h
    refine ⟨fun h => absurd h (by decide), fun h => absurd h (by decide), fun h => absurd h (by decide), fun h => absurd h (by decide), fun h => absurd h (by decide), fun _ M' hM' => ?_⟩
    obtain rfl : mX2_inList = M' := Option.some.inj ((show ab_gM (hb_Gx O X) 522 = some mX2_inList from rfl).symm.trans hM')
    exact ⟨fun _ => (hb_w2 76 (by decide +kernel)), ca_mX2_inList.1, ca_mX2_inList.2, fun _ => ⟨ci_mX2_inList, cs_mX2_inList, _, rfl, rfl⟩, fun h => absurd h (by decide), fun h => absurd h (by decide), fun h => absurd h (by decide)⟩
  · cases h
    refine ⟨fun h => absurd h (by decide), fun h => absurd h (by decide), fun h => absurd h (by decide), fun h => absurd h (by decide), fun h => absurd h (by decide), fun _ M' hM' => ?_⟩
    obtain rfl : mX2_isBehindAHead = M' := Option.some.inj ((show ab_gM (hb_Gx O X) 524 = some mX2_isBehindAHead from rfl).symm.trans hM')
    exact ⟨fun _ => (hb_w2 80 (by decide +kernel)), ca_mX2_isBehindAHead.1, ca_mX2_isBehindAHead.2, fun _ => ⟨ci_mX2_isBehindAHead, cs_mX2_isBehindAHead, _, rfl, rfl⟩, fun h => absurd h (by decide), fun h => absurd h (by decide), fun h => absurd h (by decide)⟩
  · cases h
theorem hb_T3_ok (O : Nat → Option FieldType) (X : ab_X) : ∀ (ix sort y na ci : Nat), hb_T3 ix = some (sort, y, na, ci) → ∀ M : ab_MI, ab_mo M = 3 → (ab_my M).cls = RX3 →
    (sort = 4 → Cond.methodLink (ab_my M).cls ix objectInit ∈ hb_TB ∧ Cond.instanceMethod objectInit ∈ hb_TB ∧ Cond.code objectInit ⟨#[0xb1]⟩ 1 none ∈ hb_TB) ∧
    (sort = 5 → Cond.methodLink (ab_my M).cls ix arraycopyName ∈ hb_TB ∧ Cond.native arraycopyName ∈ hb_TB ∧ Cond.static arraycopyName ∈ hb_TB ∧ Cond.initialized "java/lang/System" ∈ hb_TB) ∧
    (sort = 7 → Cond.methodLink (ab_my M).cls ix Lib.Math.max.name ∈ hb_TB ∧ Cond.static Lib.Math.max.name ∈ hb_TB ∧ Cond.initialized "java/lang/Math" ∈ hb_TB ∧ Cond.code Lib.Math.max.name Lib.Math.max.code 2 (some .int) ∈ hb_TB) ∧
    (sort = 8 → Cond.methodLink (ab_my M).cls ix Lib.Math.min.name ∈ hb_TB ∧ Cond.static Lib.Math.min.name ∈ hb_TB ∧ Cond.initialized "java/lang/Math" ∈ hb_TB ∧ Cond.code Lib.Math.min.name Lib.Math.min.code 2 (some .int) ∈ hb_TB) ∧
    (sort = 9 → Cond.methodLink (ab_my M).cls ix Lib.MathLoose.min_long.x ∈ hb_TB ∧ Cond.static Lib.MathLoose.min_long.x ∈ hb_TB ∧ Cond.initialized "java/lang/Math" ∈ hb_TB ∧ Cond.code Lib.MathLoose.min_long.x Lib.MathLoose.min_long.code 4 (some .long) ∈ hb_TB) ∧
    (sort < 4 ∨ sort = 6 → ∀ M' : ab_MI, ab_gM (hb_Gx O X) y = some M' → (sort ≠ 3 → Cond.methodLink (ab_my M).cls ix (ab_my M') ∈ hb_TB) ∧ Cond.initialized (ab_my M').cls ∈ hb_TB ∧ ((ab_my M').cls ≠ "java/lang/invoke/MethodHandle" ∧ (ab_my M').cls ≠ "java/lang/invoke/VarHandle" ∧ (parseMethodDescriptor (ab_my M').desc).map (fun d => d.parameters.length) = some na) ∧
      (sort = 0 → Cond.instanceMethod (ab_my M') ∈ hb_TB ∧ Cond.selects (ab_my M').cls (ab_my M') (ab_my M') ∈ hb_TB ∧ ∃ q : vw_C, (ab_gK (hb_Gx O X))[ci]? = some q ∧ q.1 = (ab_my M').cls) ∧
      (sort = 1 → Cond.static (ab_my M') ∈ hb_TB) ∧
      (sort = 6 → Cond.instanceMethod (ab_my M') ∈ hb_TB ∧ Cond.selects (ab_my M').cls (ab_my M') (ab_my M') ∈ hb_TB ∧ (ab_my M').cls = "java/lang/String") ∧
      (sort = 2 ∨ sort = 3 → (ab_my M').name = "<init>" ∧ Cond.instanceMethod (ab_my M') ∈ hb_TB ∧ ab_mr M' = none)) := by
  intro ix sort y na ci h M _ hcl
  rw [hcl]
  unfold hb_T3 at h
  split at h
  · cases h
    exact ⟨fun _ => ⟨(hb_w3 121 (by decide +kernel)), ca_obj.1, ca_obj.2⟩, fun h => absurd h (by decide), fun h => absurd h (by decide), fun h => absurd h (by decide), fun h => absurd h (by decide), fun h => absurd h (by decide)⟩
  · cases h
    refine ⟨fun h => absurd h (by decide), fun h => absurd h (by decide), fun h => absurd h (by decide), fun h => absurd h (by decide), fun h => absurd h (by decide), fun _ M' hM' => ?_⟩
    obtain rfl : mX3_plan = M' := Option.some.inj ((show ab_gM (hb_Gx O X) 776 = some mX3_plan from rfl).symm.trans hM')
    exact ⟨fun _ => (hb_w7 21 (by decide +kernel)), ca_mX3_plan.1, ca_mX3_plan.2, fun _ => ⟨ci_mX3_plan, cs_mX3_plan, _, rfl, rfl⟩, fun h => absurd h (by decide), fun h => absurd h (by decide), fun h => absurd h (by decide)⟩
  · cases h
    refine ⟨fun h => absurd h (by decide), fun h => absurd h (by decide), fun h => absurd h (by decide), fun h => absurd h (by decide), fun h => absurd h (by decide), fun _ M' hM' => ?_⟩
    obtain rfl : mX3_countSets = M' := Option.some.inj ((show ab_gM (hb_Gx O X) 779 = some mX3_countSets from rfl).symm.trans hM')
    exact ⟨fun _ => (hb_w7 36 (by decide +kernel)), ca_mX3_countSets.1, ca_mX3_countSets.2, fun _ => ⟨ci_mX3_countSets, cs_mX3_countSets, _, rfl, rfl⟩, fun h => absurd h (by decide), fun h => absurd h (by decide), fun h => absurd h (by decide)⟩
  · cases h
    refine ⟨fun h => absurd h (by decide), fun h => absurd h (by decide), fun h => absurd h (by decide), fun h => absurd h (by decide), fun h => absurd h (by decide), fun _ M' hM' => ?_⟩
    obtain rfl : mX3_emptySet = M' := Option.some.inj ((show ab_gM (hb_Gx O X) 780 = some mX3_emptySet from rfl).symm.trans hM')
    exact ⟨fun _ => (hb_w7 40 (by decide +kernel)), ca_mX3_emptySet.1, ca_mX3_emptySet.2, fun _ => ⟨ci_mX3_emptySet, cs_mX3_emptySet, _, rfl, rfl⟩, fun h => absurd h (by decide), fun h => absurd h (by decide), fun h => absurd h (by decide)⟩
  · cases h
    refine ⟨fun h => absurd h (by decide), fun h => absurd h (by decide), fun h => absurd h (by decide), fun h => absurd h (by decide), fun h => absurd h (by decide), fun _ M' hM' => ?_⟩
    obtain rfl : mX3_makeRoomInSet = M' := Option.some.inj ((show ab_gM (hb_Gx O X) 783 = some mX3_makeRoomInSet from rfl).symm.trans hM')
    exact ⟨fun _ => (hb_w7 48 (by decide +kernel)), ca_mX3_makeRoomInSet.1, ca_mX3_makeRoomInSet.2, fun _ => ⟨ci_mX3_makeRoomInSet, cs_mX3_makeRoomInSet, _, rfl, rfl⟩, fun h => absurd h (by decide), fun h => absurd h (by decide), fun h => absurd h (by decide)⟩
  · cases h
    refine ⟨fun h => absurd h (by decide), fun h => absurd h (by decide), fun h => absurd h (by decide), fun h => absurd h (by decide), fun h => absurd h (by decide), fun _ M' hM' => ?_⟩
    obtain rfl : mX3_addToSet = M' := Option.some.inj ((show ab_gM (hb_Gx O X) 781 = some mX3_addToSet from rfl).symm.trans hM')
    exact ⟨fun _ => (hb_w7 58 (by decide +kernel)), ca_mX3_addToSet.1, ca_mX3_addToSet.2, fun _ => ⟨ci_mX3_addToSet, cs_mX3_addToSet, _, rfl, rfl⟩, fun h => absurd h (by decide), fun h => absurd h (by decide), fun h => absurd h (by decide)⟩
  · cases h
    refine ⟨fun h => absurd h (by decide), fun h => absurd h (by decide), fun h => absurd h (by decide), fun h => absurd h (by decide), fun h => absurd h (by decide), fun _ M' hM' => ?_⟩
    obtain rfl : mX11_methodsOf = M' := Option.some.inj ((show ab_gM (hb_Gx O X) 2827 = some mX11_methodsOf from rfl).symm.trans hM')
    exact ⟨fun _ => (hb_w7 172 (by decide +kernel)), ca_mX11_methodsOf.1, ca_mX11_methodsOf.2, fun _ => ⟨ci_mX11_methodsOf, cs_mX11_methodsOf, _, rfl, rfl⟩, fun h => absurd h (by decide), fun h => absurd h (by decide), fun h => absurd h (by decide)⟩
  · cases h
    refine ⟨fun h => absurd h (by decide), fun h => absurd h (by decide), fun h => absurd h (by decide), fun h => absurd h (by decide), fun h => absurd h (by decide), fun _ M' hM' => ?_⟩
    obtain rfl : mX3_looksInTree = M' := Option.some.inj ((show ab_gM (hb_Gx O X) 774 = some mX3_looksInTree from rfl).symm.trans hM')
    exact ⟨fun _ => (hb_w7 173 (by decide +kernel)), ca_mX3_looksInTree.1, ca_mX3_looksInTree.2, fun _ => ⟨ci_mX3_looksInTree, cs_mX3_looksInTree, _, rfl, rfl⟩, fun h => absurd h (by decide), fun h => absurd h (by decide), fun h => absurd h (by decide)⟩
  · cases h
    refine ⟨fun h => absurd h (by decide), fun h => absurd h (by decide), fun h => absurd h (by decide), fun h => absurd h (by decide), fun h => absurd h (by decide), fun _ M' hM' => ?_⟩
    obtain rfl : mX3_matters = M' := Option.some.inj ((show ab_gM (hb_Gx O X) 775 = some mX3_matters from rfl).symm.trans hM')
    exact ⟨fun _ => (hb_w7 44 (by decide +kernel)), ca_mX3_matters.1, ca_mX3_matters.2, fun _ => ⟨ci_mX3_matters, cs_mX3_matters, _, rfl, rfl⟩, fun h => absurd h (by decide), fun h => absurd h (by decide), fun h => absurd h (by decide)⟩
  · cases h
    refine ⟨fun h => absurd h (by decide), fun h => absurd h (by decide), fun h => absurd h (by decide), fun h => absurd h (by decide), fun h => absurd h (by decide), fun _ M' hM' => ?_⟩
    obtain rfl : mX3_findLive = M' := Option.some.inj ((show ab_gM (hb_Gx O X) 778 = some mX3_findLive from rfl).symm.trans hM')
    exact ⟨fun _ => (hb_w7 25 (by decide +kernel)), ca_mX3_findLive.1, ca_mX3_findLive.2, fun _ => ⟨ci_mX3_findLive, cs_mX3_findLive, _, rfl, rfl⟩, fun h => absurd h (by decide), fun h => absurd h (by decide), fun h => absurd h (by decide)⟩
  · cases h
    refine ⟨fun h => absurd h (by decide), fun h => absurd h (by decide), fun h => absurd h (by decide), fun h => absurd h (by decide), fun h => absurd h (by decide), fun _ M' hM' => ?_⟩
    obtain rfl : mX3_isOrderOf = M' := Option.some.inj ((show ab_gM (hb_Gx O X) 777 = some mX3_isOrderOf from rfl).symm.trans hM')
    exact ⟨fun _ => (hb_w7 33 (by decide +kernel)), ca_mX3_isOrderOf.1, ca_mX3_isOrderOf.2, fun h => absurd h (by decide), fun _ => ct_mX3_isOrderOf, fun h => absurd h (by decide), fun h => absurd h (by decide)⟩
  · cases h
    refine ⟨fun h => absurd h (by decide), fun h => absurd h (by decide), fun h => absurd h (by decide), fun h => absurd h (by decide), fun h => absurd h (by decide), fun _ M' hM' => ?_⟩
    obtain rfl : mX3_spotFor = M' := Option.some.inj ((show ab_gM (hb_Gx O X) 782 = some mX3_spotFor from rfl).symm.trans hM')
    exact ⟨fun _ => (hb_w7 52 (by decide +kernel)), ca_mX3_spotFor.1, ca_mX3_spotFor.2, fun _ => ⟨ci_mX3_spotFor, cs_mX3_spotFor, _, rfl, rfl⟩, fun h => absurd h (by decide), fun h => absurd h (by decide), fun h => absurd h (by decide)⟩
  · cases h
theorem hb_T4_ok (O : Nat → Option FieldType) (X : ab_X) : ∀ (ix sort y na ci : Nat), hb_T4 ix = some (sort, y, na, ci) → ∀ M : ab_MI, ab_mo M = 4 → (ab_my M).cls = RX4 →
    (sort = 4 → Cond.methodLink (ab_my M).cls ix objectInit ∈ hb_TB ∧ Cond.instanceMethod objectInit ∈ hb_TB ∧ Cond.code objectInit ⟨#[0xb1]⟩ 1 none ∈ hb_TB) ∧
    (sort = 5 → Cond.methodLink (ab_my M).cls ix arraycopyName ∈ hb_TB ∧ Cond.native arraycopyName ∈ hb_TB ∧ Cond.static arraycopyName ∈ hb_TB ∧ Cond.initialized "java/lang/System" ∈ hb_TB) ∧
    (sort = 7 → Cond.methodLink (ab_my M).cls ix Lib.Math.max.name ∈ hb_TB ∧ Cond.static Lib.Math.max.name ∈ hb_TB ∧ Cond.initialized "java/lang/Math" ∈ hb_TB ∧ Cond.code Lib.Math.max.name Lib.Math.max.code 2 (some .int) ∈ hb_TB) ∧
    (sort = 8 → Cond.methodLink (ab_my M).cls ix Lib.Math.min.name ∈ hb_TB ∧ Cond.static Lib.Math.min.name ∈ hb_TB ∧ Cond.initialized "java/lang/Math" ∈ hb_TB ∧ Cond.code Lib.Math.min.name Lib.Math.min.code 2 (some .int) ∈ hb_TB) ∧
    (sort = 9 → Cond.methodLink (ab_my M).cls ix Lib.MathLoose.min_long.x ∈ hb_TB ∧ Cond.static Lib.MathLoose.min_long.x ∈ hb_TB ∧ Cond.initialized "java/lang/Math" ∈ hb_TB ∧ Cond.code Lib.MathLoose.min_long.x Lib.MathLoose.min_long.code 4 (some .long) ∈ hb_TB) ∧
    (sort < 4 ∨ sort = 6 → ∀ M' : ab_MI, ab_gM (hb_Gx O X) y = some M' → (sort ≠ 3 → Cond.methodLink (ab_my M).cls ix (ab_my M') ∈ hb_TB) ∧ Cond.initialized (ab_my M').cls ∈ hb_TB ∧ ((ab_my M').cls ≠ "java/lang/invoke/MethodHandle" ∧ (ab_my M').cls ≠ "java/lang/invoke/VarHandle" ∧ (parseMethodDescriptor (ab_my M').desc).map (fun d => d.parameters.length) = some na) ∧
      (sort = 0 → Cond.instanceMethod (ab_my M') ∈ hb_TB ∧ Cond.selects (ab_my M').cls (ab_my M') (ab_my M') ∈ hb_TB ∧ ∃ q : vw_C, (ab_gK (hb_Gx O X))[ci]? = some q ∧ q.1 = (ab_my M').cls) ∧
      (sort = 1 → Cond.static (ab_my M') ∈ hb_TB) ∧
      (sort = 6 → Cond.instanceMethod (ab_my M') ∈ hb_TB ∧ Cond.selects (ab_my M').cls (ab_my M') (ab_my M') ∈ hb_TB ∧ (ab_my M').cls = "java/lang/String") ∧
      (sort = 2 ∨ sort = 3 → (ab_my M').name = "<init>" ∧ Cond.instanceMethod (ab_my M') ∈ hb_TB ∧ ab_mr M' = none)) := by
  intro ix sort y na ci h M _ hcl
  rw [hcl]
  unfold hb_T4 at h
  split at h
  · cases h
    exact ⟨fun _ => ⟨(hb_w4 34 (by decide +kernel)), ca_obj.1, ca_obj.2⟩, fun h => absurd h (by decide), fun h => absurd h (by decide), fun h => absurd h (by decide), fun h => absurd h (by decide), fun h => absurd h (by decide)⟩
  · cases h
    refine ⟨fun h => absurd h (by decide), fun h => absurd h (by decide), fun h => absurd h (by decide), fun h => absurd h (by decide), fun h => absurd h (by decide), fun _ M' hM' => ?_⟩
    obtain rfl : mX4_beginRun = M' := Option.some.inj ((show ab_gM (hb_Gx O X) 1028 = some mX4_beginRun from rfl).symm.trans hM')
    exact ⟨fun _ => (hb_w7 144 (by decide +kernel)), ca_mX4_beginRun.1, ca_mX4_beginRun.2, fun _ => ⟨ci_mX4_beginRun, cs_mX4_beginRun, _, rfl, rfl⟩, fun h => absurd h (by decide), fun h => absurd h (by decide), fun h => absurd h (by decide)⟩
  · cases h
    refine ⟨fun h => absurd h (by decide), fun h => absurd h (by decide), fun h => absurd h (by decide), fun h => absurd h (by decide), fun h => absurd h (by decide), fun _ M' hM' => ?_⟩
    obtain rfl : mX4_finish = M' := Option.some.inj ((show ab_gM (hb_Gx O X) 1029 = some mX4_finish from rfl).symm.trans hM')
    exact ⟨fun _ => (hb_w7 149 (by decide +kernel)), ca_mX4_finish.1, ca_mX4_finish.2, fun _ => ⟨ci_mX4_finish, cs_mX4_finish, _, rfl, rfl⟩, fun h => absurd h (by decide), fun h => absurd h (by decide), fun h => absurd h (by decide)⟩
  · cases h
    refine ⟨fun h => absurd h (by decide), fun h => absurd h (by decide), fun h => absurd h (by decide), fun h => absurd h (by decide), fun h => absurd h (by decide), fun _ M' hM' => ?_⟩
    obtain rfl : mX4_takeGiven = M' := Option.some.inj ((show ab_gM (hb_Gx O X) 1032 = some mX4_takeGiven from rfl).symm.trans hM')
    exact ⟨fun _ => (hb_w7 153 (by decide +kernel)), ca_mX4_takeGiven.1, ca_mX4_takeGiven.2, fun _ => ⟨ci_mX4_takeGiven, cs_mX4_takeGiven, _, rfl, rfl⟩, fun h => absurd h (by decide), fun h => absurd h (by decide), fun h => absurd h (by decide)⟩
  · cases h
    refine ⟨fun h => absurd h (by decide), fun h => absurd h (by decide), fun h => absurd h (by decide), fun h => absurd h (by decide), fun h => absurd h (by decide), fun _ M' hM' => ?_⟩
    obtain rfl : mX0_choose = M' := Option.some.inj ((show ab_gM (hb_Gx O X) 4 = some mX0_choose from rfl).symm.trans hM')
    exact ⟨fun _ => (hb_w7 161 (by decide +kernel)), ca_mX0_choose.1, ca_mX0_choose.2, fun _ => ⟨ci_mX0_choose, cs_mX0_choose, _, rfl, rfl⟩, fun h => absurd h (by decide), fun h => absurd h (by decide), fun h => absurd h (by decide)⟩
  · cases h
    refine ⟨fun h => absurd h (by decide), fun h => absurd h (by decide), fun h => absurd h (by decide), fun h => absurd h (by decide), fun h => absurd h (by decide), fun _ M' hM' => ?_⟩
    obtain rfl : mX4_beginCall = M' := Option.some.inj ((show ab_gM (hb_Gx O X) 1042 = some mX4_beginCall from rfl).symm.trans hM')
    exact ⟨fun _ => (hb_w7 212 (by decide +kernel)), ca_mX4_beginCall.1, ca_mX4_beginCall.2, fun _ => ⟨ci_mX4_beginCall, cs_mX4_beginCall, _, rfl, rfl⟩, fun h => absurd h (by decide), fun h => absurd h (by decide), fun h => absurd h (by decide)⟩
  · cases h
    refine ⟨fun h => absurd h (by decide), fun h => absurd h (by decide), fun h => absurd h (by decide), fun h => absurd h (by decide), fun h => absurd h (by decide), fun _ M' hM' => ?_⟩
    obtain rfl : mX4_goToNext = M' := Option.some.inj ((show ab_gM (hb_Gx O X) 1044 = some mX4_goToNext from rfl).symm.trans hM')
    exact ⟨fun _ => (hb_w8 20 (by decide +kernel)), ca_mX4_goToNext.1, ca_mX4_goToNext.2, fun _ => ⟨ci_mX4_goToNext, cs_mX4_goToNext, _, rfl, rfl⟩, fun h => absurd h (by decide), fun h => absurd h (by decide), fun h => absurd h (by decide)⟩
  · cases h
    refine ⟨fun h => absurd h (by decide), fun h => absurd h (by decide), fun h => absurd h (by decide), fun h => absurd h (by decide), fun h => absurd h (by decide), fun _ M' hM' => ?_⟩
    obtain rfl : mX4_pop = M' := Option.some.inj ((show ab_gM (hb_Gx O X) 1031 = some mX4_pop from rfl).symm.trans hM')
    exact ⟨fun _ => (hb_w7 157 (by decide +kernel)), ca_mX4_pop.1, ca_mX4_pop.2, fun _ => ⟨ci_mX4_pop, cs_mX4_pop, _, rfl, rfl⟩, fun h => absurd h (by decide), fun h => absurd h (by decide), fun h => absurd h (by decide)⟩
  · cases h
    refine ⟨fun h => absurd h (by decide), fun h => absurd h (by decide), fun h => absurd h (by decide), fun h => absurd h (by decide), fun h => absurd h (by decide), fun _ M' hM' => ?_⟩
    obtain rfl : mX4_endMethod = M' := Option.some.inj ((show ab_gM (hb_Gx O X) 1048 = some mX4_endMethod from rfl).symm.trans hM')
    exact ⟨fun _ => (hb_w8 24 (by decide +kernel)), ca_mX4_endMethod.1, ca_mX4_endMethod.2, fun _ => ⟨ci_mX4_endMethod, cs_mX4_endMethod, _, rfl, rfl⟩, fun h => absurd h (by decide), fun h => absurd h (by decide), fun h => absurd h (by decide)⟩
  · cases h
    refine ⟨fun h => absurd h (by decide), fun h => absurd h (by decide), fun h => absurd h (by decide), fun h => absurd h (by decide), fun h => absurd h (by decide), fun _ M' hM' => ?_⟩
    obtain rfl : mX4_failWith = M' := Option.some.inj ((show ab_gM (hb_Gx O X) 1040 = some mX4_failWith from rfl).symm.trans hM')
    exact ⟨fun _ => (hb_w8 34 (by decide +kernel)), ca_mX4_failWith.1, ca_mX4_failWith.2, fun _ => ⟨ci_mX4_failWith, cs_mX4_failWith, _, rfl, rfl⟩, fun h => absurd h (by decide), fun h => absurd h (by decide), fun h => absurd h (by decide)⟩
  · cases h
    refine ⟨fun h => absurd h (by decide), fun h => absurd h (by decide), fun h => absurd h (by decide), fun h => absurd h (by decide), fun h => absurd h (by decide), fun _ M' hM' => ?_⟩
    obtain rfl : mX4_obey = M' := Option.some.inj ((show ab_gM (hb_Gx O X) 1033 = some mX4_obey from rfl).symm.trans hM')
    exact ⟨fun _ => (hb_w8 38 (by decide +kernel)), ca_mX4_obey.1, ca_mX4_obey.2, fun _ => ⟨ci_mX4_obey, cs_mX4_obey, _, rfl, rfl⟩, fun h => absurd h (by decide), fun h => absurd h (by decide), fun h => absurd h (by decide)⟩
  · cases h
    refine ⟨fun h => absurd h (by decide), fun h => absurd h (by decide), fun h => absurd h (by decide), fun h => absurd h (by decide), fun h => absurd h (by decide), fun _ M' hM' => ?_⟩
    obtain rfl : mX4_valueOf = M' := Option.some.inj ((show ab_gM (hb_Gx O X) 1026 = some mX4_valueOf from rfl).symm.trans hM')
    exact ⟨fun _ => (hb_w7 239 (by decide +kernel)), ca_mX4_valueOf.1, ca_mX4_valueOf.2, fun h => absurd h (by decide), fun _ => ct_mX4_valueOf, fun h => absurd h (by decide), fun h => absurd h (by decide)⟩
  · cases h
    refine ⟨fun h => absurd h (by decide), fun h => absurd h (by decide), fun h => absurd h (by decide), fun h => absurd h (by decide), fun h => absurd h (by decide), fun _ M' hM' => ?_⟩
    obtain rfl : mX4_push = M' := Option.some.inj ((show ab_gM (hb_Gx O X) 1030 = some mX4_push from rfl).symm.trans hM')
    exact ⟨fun _ => (hb_w8 16 (by decide +kernel)), ca_mX4_push.1, ca_mX4_push.2, fun _ => ⟨ci_mX4_push, cs_mX4_push, _, rfl, rfl⟩, fun h => absurd h (by decide), fun h => absurd h (by decide), fun h => absurd h (by decide)⟩
  · cases h
    refine ⟨fun h => absurd h (by decide), fun h => absurd h (by decide), fun h => absurd h (by decide), fun h => absurd h (by decide), fun h => absurd h (by decide), fun _ M' hM' => ?_⟩
    obtain rfl : mX4_without = M' := Option.some.inj ((show ab_gM (hb_Gx O X) 1034 = some mX4_without from rfl).symm.trans hM')
    exact ⟨fun _ => (hb_w8 42 (by decide +kernel)), ca_mX4_without.1, ca_mX4_without.2, fun h => absurd h (by decide), fun _ => ct_mX4_without, fun h => absurd h (by decide), fun h => absurd h (by decide)⟩
  · cases h
    refine ⟨fun h => absurd h (by decide), fun h => absurd h (by decide), fun h => absurd h (by decide), fun h => absurd h (by decide), fun h => absurd h (by decide), fun _ M' hM' => ?_⟩
    obtain rfl : mX4_beginTry = M' := Option.some.inj ((show ab_gM (hb_Gx O X) 1038 = some mX4_beginTry from rfl).symm.trans hM')
    exact ⟨fun _ => (hb_w8 46 (by decide +kernel)), ca_mX4_beginTry.1, ca_mX4_beginTry.2, fun _ => ⟨ci_mX4_beginTry, cs_mX4_beginTry, _, rfl, rfl⟩, fun h => absurd h (by decide), fun h => absurd h (by decide), fun h => absurd h (by decide)⟩
  · cases h
    refine ⟨fun h => absurd h (by decide), fun h => absurd h (by decide), fun h => absurd h (by decide), fun h => absurd h (by decide), fun h => absurd h (by decide), fun _ M' hM' => ?_⟩
    obtain rfl : mX4_endTry = M' := Option.some.inj ((show ab_gM (hb_Gx O X) 1039 = some mX4_endTry from rfl).symm.trans hM')
    exact ⟨fun _ => (hb_w8 50 (by decide +kernel)), ca_mX4_endTry.1, ca_mX4_endTry.2, fun _ => ⟨ci_mX4_endTry, cs_mX4_endTry, _, rfl, rfl⟩, fun h => absurd h (by decide), fun h => absurd h (by decide), fun h => absurd h (by decide)⟩
  · cases h
    refine ⟨fun h => absurd h (by decide), fun h => absurd h (by decide), fun h => absurd h (by decide), fun h => absurd h (by decide), fun h => absurd h (by decide), fun _ M' hM' => ?_⟩
    obtain rfl : mX4_showTop = M' := Option.some.inj ((show ab_gM (hb_Gx O X) 1037 = some mX4_showTop from rfl).symm.trans hM')
    exact ⟨fun _ => (hb_w8 54 (by decide +kernel)), ca_mX4_showTop.1, ca_mX4_showTop.2, fun _ => ⟨ci_mX4_showTop, cs_mX4_showTop, _, rfl, rfl⟩, fun h => absurd h (by decide), fun h => absurd h (by decide), fun h => absurd h (by decide)⟩
  · cases h
    refine ⟨fun h => absurd h (by decide), fun h => absurd h (by decide), fun h => absurd h (by decide), fun h => absurd h (by decide), fun h => absurd h (by decide), fun _ M' hM' => ?_⟩
    obtain rfl : mX4_reckon = M' := Option.some.inj ((show ab_gM (hb_Gx O X) 1035 = some mX4_reckon from rfl).symm.trans hM')
    exact ⟨fun _ => (hb_w8 58 (by decide +kernel)), ca_mX4_reckon.1, ca_mX4_reckon.2, fun _ => ⟨ci_mX4_reckon, cs_mX4_reckon, _, rfl, rfl⟩, fun h => absurd h (by decide), fun h => absurd h (by decide), fun h => absurd h (by decide)⟩
  · cases h
    refine ⟨fun h => absurd h (by decide), fun h => absurd h (by decide), fun h => absurd h (by decide), fun h => absurd h (by decide), fun h => absurd h (by decide), fun _ M' hM' => ?_⟩
    obtain rfl : mX4_kindOf = M' := Option.some.inj ((show ab_gM (hb_Gx O X) 1025 = some mX4_kindOf from rfl).symm.trans hM')
    exact ⟨fun _ => (hb_w8 62 (by decide +kernel)), ca_mX4_kindOf.1, ca_mX4_kindOf.2, fun h => absurd h (by decide), fun _ => ct_mX4_kindOf, fun h => absurd h (by decide), fun h => absurd h (by decide)⟩
  · cases h
    refine ⟨fun h => absurd h (by decide), fun h => absurd h (by decide), fun h => absurd h (by decide), fun h => absurd h (by decide), fun h => absurd h (by decide), fun _ M' hM' => ?_⟩
    obtain rfl : mX2_isBelow = M' := Option.some.inj ((show ab_gM (hb_Gx O X) 513 = some mX2_isBelow from rfl).symm.trans hM')
    exact ⟨fun _ => (hb_w8 63 (by decide +kernel)), ca_mX2_isBelow.1, ca_mX2_isBelow.2, fun _ => ⟨ci_mX2_isBelow, cs_mX2_isBelow, _, rfl, rfl⟩, fun h => absurd h (by decide), fun h => absurd h (by decide), fun h => absurd h (by decide)⟩
  · cases h
    refine ⟨fun h => absurd h (by decide), fun h => absurd h (by decide), fun h => absurd h (by decide), fun h => absurd h (by decide), fun h => absurd h (by decide), fun _ M' hM' => ?_⟩
    obtain rfl : mX4_joinTwo = M' := Option.some.inj ((show ab_gM (hb_Gx O X) 1036 = some mX4_joinTwo from rfl).symm.trans hM')
    exact ⟨fun _ => (hb_w8 64 (by decide +kernel)), ca_mX4_joinTwo.1, ca_mX4_joinTwo.2, fun h => absurd h (by decide), fun _ => ct_mX4_joinTwo, fun h => absurd h (by decide), fun h => absurd h (by decide)⟩
  · cases h
    refine ⟨fun h => absurd h (by decide), fun h => absurd h (by decide), fun h => absurd h (by decide), fun h => absurd h (by decide), fun h => absurd h (by decide), fun _ M' hM' => ?_⟩
    obtain rfl : mX0_rowSize = M' := Option.some.inj ((show ab_gM (hb_Gx O X) 1 = some mX0_rowSize from rfl).symm.trans hM')
    exact ⟨fun _ => (hb_w7 216 (by decide +kernel)), ca_mX0_rowSize.1, ca_mX0_rowSize.2, fun _ => ⟨ci_mX0_rowSize, cs_mX0_rowSize, _, rfl, rfl⟩, fun h => absurd h (by decide), fun h => absurd h (by decide), fun h => absurd h (by decide)⟩
  · cases h
    refine ⟨fun h => absurd h (by decide), fun h => absurd h (by decide), fun h => absurd h (by decide), fun h => absurd h (by decide), fun h => absurd h (by decide), fun _ M' hM' => ?_⟩
    obtain rfl : mX4_beginMethod = M' := Option.some.inj ((show ab_gM (hb_Gx O X) 1043 = some mX4_beginMethod from rfl).symm.trans hM')
    exact ⟨fun _ => (hb_w7 220 (by decide +kernel)), ca_mX4_beginMethod.1, ca_mX4_beginMethod.2, fun _ => ⟨ci_mX4_beginMethod, cs_mX4_beginMethod, _, rfl, rfl⟩, fun h => absurd h (by decide), fun h => absurd h (by decide), fun h => absurd h (by decide)⟩
  · cases h
    refine ⟨fun h => absurd h (by decide), fun h => absurd h (by decide), fun h => absurd h (by decide), fun h => absurd h (by decide), fun h => absurd h (by decide), fun _ M' hM' => ?_⟩
    obtain rfl : mX0_endsWithSeveral = M' := Option.some.inj ((show ab_gM (hb_Gx O X) 2 = some mX0_endsWithSeveral from rfl).symm.trans hM')
    exact ⟨fun _ => (hb_w7 229 (by decide +kernel)), ca_mX0_endsWithSeveral.1, ca_mX0_endsWithSeveral.2, fun _ => ⟨ci_mX0_endsWithSeveral, cs_mX0_endsWithSeveral, _, rfl, rfl⟩, fun h => absurd h (by decide), fun h => absurd h (by decide), fun h => absurd h (by decide)⟩
  · cases h
    refine ⟨fun h => absurd h (by decide), fun h => absurd h (by decide), fun h => absurd h (by decide), fun h => absurd h (by decide), fun h => absurd h (by decide), fun _ M' hM' => ?_⟩
    obtain rfl : mX4_beginInside = M' := Option.some.inj ((show ab_gM (hb_Gx O X) 1045 = some mX4_beginInside from rfl).symm.trans hM')
    exact ⟨fun _ => (hb_w7 233 (by decide +kernel)), ca_mX4_beginInside.1, ca_mX4_beginInside.2, fun _ => ⟨ci_mX4_beginInside, cs_mX4_beginInside, _, rfl, rfl⟩, fun h => absurd h (by decide), fun h => absurd h (by decide), fun h => absurd h (by decide)⟩
  · cases h
    refine ⟨fun h => absurd h (by decide), fun h => absurd h (by decide), fun h => absurd h (by decide), fun h => absurd h (by decide), fun h => absurd h (by decide), fun _ M' hM' => ?_⟩
    obtain rfl : mX0_inRow = M' := Option.some.inj ((show ab_gM (hb_Gx O X) 3 = some mX0_inRow from rfl).symm.trans hM')
    exact ⟨fun _ => (hb_w7 224 (by decide +kernel)), ca_mX0_inRow.1, ca_mX0_inRow.2, fun _ => ⟨ci_mX0_inRow, cs_mX0_inRow, _, rfl, rfl⟩, fun h => absurd h (by decide), fun h => absurd h (by decide), fun h => absurd h (by decide)⟩
  · cases h
    exact ⟨fun h => absurd h (by decide), fun _ => ⟨(hb_w7 228 (by decide +kernel)), ca_cpy⟩, fun h => absurd h (by decide), fun h => absurd h (by decide), fun h => absurd h (by decide), fun h => absurd h (by decide)⟩
  · cases h
    refine ⟨fun h => absurd h (by decide), fun h => absurd h (by decide), fun h => absurd h (by decide), fun h => absurd h (by decide), fun h => absurd h (by decide), fun _ M' hM' => ?_⟩
    obtain rfl : mX4_inFrame = M' := Option.some.inj ((show ab_gM (hb_Gx O X) 1041 = some mX4_inFrame from rfl).symm.trans hM')
    exact ⟨fun _ => (hb_w8 7 (by decide +kernel)), ca_mX4_inFrame.1, ca_mX4_inFrame.2, fun _ => ⟨ci_mX4_inFrame, cs_mX4_inFrame, _, rfl, rfl⟩, fun h => absurd h (by decide), fun h => absurd h (by decide), fun h => absurd h (by decide)⟩
  · cases h
    refine ⟨fun h => absurd h (by decide), fun h => absurd h (by decide), fun h => absurd h (by decide), fun h => absurd h (by decide), fun h => absurd h (by decide), fun _ M' hM' => ?_⟩
    obtain rfl : mX4_goOnInside = M' := Option.some.inj ((show ab_gM (hb_Gx O X) 1046 = some mX4_goOnInside from rfl).symm.trans hM')
    exact ⟨fun _ => (hb_w8 3 (by decide +kernel)), ca_mX4_goOnInside.1, ca_mX4_goOnInside.2, fun _ => ⟨ci_mX4_goOnInside, cs_mX4_goOnInside, _, rfl, rfl⟩, fun h => absurd h (by decide), fun h => absurd h (by decide), fun h => absurd h (by decide)⟩
  · cases h
    refine ⟨fun h => absurd h (by decide), fun h => absurd h (by decide), fun h => absurd h (by decide), fun h => absurd h (by decide), fun h => absurd h (by decide), fun _ M' hM' => ?_⟩
    obtain rfl : mX4_plainTurns = M' := Option.some.inj ((show ab_gM (hb_Gx O X) 1047 = some mX4_plainTurns from rfl).symm.trans hM')
    exact ⟨fun _ => (hb_w8 11 (by decide +kernel)), ca_mX4_plainTurns.1, ca_mX4_plainTurns.2, fun _ => ⟨ci_mX4_plainTurns, cs_mX4_plainTurns, _, rfl, rfl⟩, fun h => absurd h (by decide), fun h => absurd h (by decide), fun h => absurd h (by decide)⟩
  · cases h
    refine ⟨fun h => absurd h (by decide), fun h => absurd h (by decide), fun h => absurd h (by decide), fun h => absurd h (by decide), fun h => absurd h (by decide), fun _ M' hM' => ?_⟩
    obtain rfl : mX4_joinValue = M' := Option.some.inj ((show ab_gM (hb_Gx O X) 1049 = some mX4_joinValue from rfl).symm.trans hM')
    exact ⟨fun _ => (hb_w8 28 (by decide +kernel)), ca_mX4_joinValue.1, ca_mX4_joinValue.2, fun _ => ⟨ci_mX4_joinValue, cs_mX4_joinValue, _, rfl, rfl⟩, fun h => absurd h (by decide), fun h => absurd h (by decide), fun h => absurd h (by decide)⟩
  · cases h
    exact ⟨fun h => absurd h (by decide), fun h => absurd h (by decide), fun h => absurd h (by decide), fun _ => ⟨(hb_w8 32 (by decide +kernel)), ca_m8⟩, fun h => absurd h (by decide), fun h => absurd h (by decide)⟩
  · cases h
theorem hb_T5_ok (O : Nat → Option FieldType) (X : ab_X) : ∀ (ix sort y na ci : Nat), hb_T5 ix = some (sort, y, na, ci) → ∀ M : ab_MI, ab_mo M = 5 → (ab_my M).cls = RX5 →
    (sort = 4 → Cond.methodLink (ab_my M).cls ix objectInit ∈ hb_TB ∧ Cond.instanceMethod objectInit ∈ hb_TB ∧ Cond.code objectInit ⟨#[0xb1]⟩ 1 none ∈ hb_TB) ∧
    (sort = 5 → Cond.methodLink (ab_my M).cls ix arraycopyName ∈ hb_TB ∧ Cond.native arraycopyName ∈ hb_TB ∧ Cond.static arraycopyName ∈ hb_TB ∧ Cond.initialized "java/lang/System" ∈ hb_TB) ∧
    (sort = 7 → Cond.methodLink (ab_my M).cls ix Lib.Math.max.name ∈ hb_TB ∧ Cond.static Lib.Math.max.name ∈ hb_TB ∧ Cond.initialized "java/lang/Math" ∈ hb_TB ∧ Cond.code Lib.Math.max.name Lib.Math.max.code 2 (some .int) ∈ hb_TB) ∧
    (sort = 8 → Cond.methodLink (ab_my M).cls ix Lib.Math.min.name ∈ hb_TB ∧ Cond.static Lib.Math.min.name ∈ hb_TB ∧ Cond.initialized "java/lang/Math" ∈ hb_TB ∧ Cond.code Lib.Math.min.name Lib.Math.min.code 2 (some .int) ∈ hb_TB) ∧
    (sort = 9 → Cond.methodLink (ab_my M).cls ix Lib.MathLoose.min_long.x ∈ hb_TB ∧ Cond.static Lib.MathLoose.min_long.x ∈ hb_TB ∧ Cond.initialized "java/lang/Math" ∈ hb_TB ∧ Cond.code Lib.MathLoose.min_long.x Lib.MathLoose.min_long.code 4 (some .long) ∈ hb_TB) ∧
    (sort < 4 ∨ sort = 6 → ∀ M' : ab_MI, ab_gM (hb_Gx O X) y = some M' → (sort ≠ 3 → Cond.methodLink (ab_my M).cls ix (ab_my M') ∈ hb_TB) ∧ Cond.initialized (ab_my M').cls ∈ hb_TB ∧ ((ab_my M').cls ≠ "java/lang/invoke/MethodHandle" ∧ (ab_my M').cls ≠ "java/lang/invoke/VarHandle" ∧ (parseMethodDescriptor (ab_my M').desc).map (fun d => d.parameters.length) = some na) ∧
      (sort = 0 → Cond.instanceMethod (ab_my M') ∈ hb_TB ∧ Cond.selects (ab_my M').cls (ab_my M') (ab_my M') ∈ hb_TB ∧ ∃ q : vw_C, (ab_gK (hb_Gx O X))[ci]? = some q ∧ q.1 = (ab_my M').cls) ∧
      (sort = 1 → Cond.static (ab_my M') ∈ hb_TB) ∧
      (sort = 6 → Cond.instanceMethod (ab_my M') ∈ hb_TB ∧ Cond.selects (ab_my M').cls (ab_my M') (ab_my M') ∈ hb_TB ∧ (ab_my M').cls = "java/lang/String") ∧
      (sort = 2 ∨ sort = 3 → (ab_my M').name = "<init>" ∧ Cond.instanceMethod (ab_my M') ∈ hb_TB ∧ ab_mr M' = none)) := by
  intro ix sort y na ci h M _ hcl
  rw [hcl]
  unfold hb_T5 at h
  split at h
  · cases h
    exact ⟨fun _ => ⟨(hb_w1 102 (by decide +kernel)), ca_obj.1, ca_obj.2⟩, fun h => absurd h (by decide), fun h => absurd h (by decide), fun h => absurd h (by decide), fun h => absurd h (by decide), fun h => absurd h (by decide)⟩
  · cases h
    refine ⟨fun h => absurd h (by decide), fun h => absurd h (by decide), fun h => absurd h (by decide), fun h => absurd h (by decide), fun h => absurd h (by decide), fun _ M' hM' => ?_⟩
    obtain rfl : mX5_sameKinds = M' := Option.some.inj ((show ab_gM (hb_Gx O X) 1285 = some mX5_sameKinds from rfl).symm.trans hM')
    exact ⟨fun _ => (hb_w5 210 (by decide +kernel)), ca_mX5_sameKinds.1, ca_mX5_sameKinds.2, fun _ => ⟨ci_mX5_sameKinds, cs_mX5_sameKinds, _, rfl, rfl⟩, fun h => absurd h (by decide), fun h => absurd h (by decide), fun h => absurd h (by decide)⟩
  · cases h
    refine ⟨fun h => absurd h (by decide), fun h => absurd h (by decide), fun h => absurd h (by decide), fun h => absurd h (by decide), fun h => absurd h (by decide), fun _ M' hM' => ?_⟩
    obtain rfl : mX5_sameEquals = M' := Option.some.inj ((show ab_gM (hb_Gx O X) 1286 = some mX5_sameEquals from rfl).symm.trans hM')
    exact ⟨fun _ => (hb_w5 214 (by decide +kernel)), ca_mX5_sameEquals.1, ca_mX5_sameEquals.2, fun _ => ⟨ci_mX5_sameEquals, cs_mX5_sameEquals, _, rfl, rfl⟩, fun h => absurd h (by decide), fun h => absurd h (by decide), fun h => absurd h (by decide)⟩
  · cases h
theorem hb_T6_ok (O : Nat → Option FieldType) (X : ab_X) : ∀ (ix sort y na ci : Nat), hb_T6 ix = some (sort, y, na, ci) → ∀ M : ab_MI, ab_mo M = 6 → (ab_my M).cls = RX6 →
    (sort = 4 → Cond.methodLink (ab_my M).cls ix objectInit ∈ hb_TB ∧ Cond.instanceMethod objectInit ∈ hb_TB ∧ Cond.code objectInit ⟨#[0xb1]⟩ 1 none ∈ hb_TB) ∧
    (sort = 5 → Cond.methodLink (ab_my M).cls ix arraycopyName ∈ hb_TB ∧ Cond.native arraycopyName ∈ hb_TB ∧ Cond.static arraycopyName ∈ hb_TB ∧ Cond.initialized "java/lang/System" ∈ hb_TB) ∧
    (sort = 7 → Cond.methodLink (ab_my M).cls ix Lib.Math.max.name ∈ hb_TB ∧ Cond.static Lib.Math.max.name ∈ hb_TB ∧ Cond.initialized "java/lang/Math" ∈ hb_TB ∧ Cond.code Lib.Math.max.name Lib.Math.max.code 2 (some .int) ∈ hb_TB) ∧
    (sort = 8 → Cond.methodLink (ab_my M).cls ix Lib.Math.min.name ∈ hb_TB ∧ Cond.static Lib.Math.min.name ∈ hb_TB ∧ Cond.initialized "java/lang/Math" ∈ hb_TB ∧ Cond.code Lib.Math.min.name Lib.Math.min.code 2 (some .int) ∈ hb_TB) ∧
    (sort = 9 → Cond.methodLink (ab_my M).cls ix Lib.MathLoose.min_long.x ∈ hb_TB ∧ Cond.static Lib.MathLoose.min_long.x ∈ hb_TB ∧ Cond.initialized "java/lang/Math" ∈ hb_TB ∧ Cond.code Lib.MathLoose.min_long.x Lib.MathLoose.min_long.code 4 (some .long) ∈ hb_TB) ∧
    (sort < 4 ∨ sort = 6 → ∀ M' : ab_MI, ab_gM (hb_Gx O X) y = some M' → (sort ≠ 3 → Cond.methodLink (ab_my M).cls ix (ab_my M') ∈ hb_TB) ∧ Cond.initialized (ab_my M').cls ∈ hb_TB ∧ ((ab_my M').cls ≠ "java/lang/invoke/MethodHandle" ∧ (ab_my M').cls ≠ "java/lang/invoke/VarHandle" ∧ (parseMethodDescriptor (ab_my M').desc).map (fun d => d.parameters.length) = some na) ∧
      (sort = 0 → Cond.instanceMethod (ab_my M') ∈ hb_TB ∧ Cond.selects (ab_my M').cls (ab_my M') (ab_my M') ∈ hb_TB ∧ ∃ q : vw_C, (ab_gK (hb_Gx O X))[ci]? = some q ∧ q.1 = (ab_my M').cls) ∧
      (sort = 1 → Cond.static (ab_my M') ∈ hb_TB) ∧
      (sort = 6 → Cond.instanceMethod (ab_my M') ∈ hb_TB ∧ Cond.selects (ab_my M').cls (ab_my M') (ab_my M') ∈ hb_TB ∧ (ab_my M').cls = "java/lang/String") ∧
      (sort = 2 ∨ sort = 3 → (ab_my M').name = "<init>" ∧ Cond.instanceMethod (ab_my M') ∈ hb_TB ∧ ab_mr M' = none)) := by
  intro ix sort y na ci h M _ hcl
  rw [hcl]
  unfold hb_T6 at h
  split at h
  · cases h
    exact ⟨fun _ => ⟨(hb_w3 57 (by decide +kernel)), ca_obj.1, ca_obj.2⟩, fun h => absurd h (by decide), fun h => absurd h (by decide), fun h => absurd h (by decide), fun h => absurd h (by decide), fun h => absurd h (by decide)⟩
  · cases h
    refine ⟨fun h => absurd h (by decide), fun h => absurd h (by decide), fun h => absurd h (by decide), fun h => absurd h (by decide), fun h => absurd h (by decide), fun _ M' hM' => ?_⟩
    obtain rfl : mX9_init = M' := Option.some.inj ((show ab_gM (hb_Gx O X) 2304 = some mX9_init from rfl).symm.trans hM')
    exact ⟨fun _ => (hb_w3 60 (by decide +kernel)), ca_mX9_init.1, ca_mX9_init.2, fun h => absurd h (by decide), fun h => absurd h (by decide), fun h => absurd h (by decide), fun _ => ⟨rfl, ci_mX9_init, rfl⟩⟩
  · cases h
    refine ⟨fun h => absurd h (by decide), fun h => absurd h (by decide), fun h => absurd h (by decide), fun h => absurd h (by decide), fun h => absurd h (by decide), fun _ M' hM' => ?_⟩
    obtain rfl : mJ7_fill_53178 = M' := Option.some.inj ((show ab_gM (hb_Gx O X) 11265 = some mJ7_fill_53178 from rfl).symm.trans hM')
    exact ⟨fun _ => (hb_w6 7 (by decide +kernel)), ca_mJ7_fill_53178.1, ca_mJ7_fill_53178.2, fun h => absurd h (by decide), fun _ => ct_mJ7_fill_53178, fun h => absurd h (by decide), fun h => absurd h (by decide)⟩
  · cases h
    refine ⟨fun h => absurd h (by decide), fun h => absurd h (by decide), fun h => absurd h (by decide), fun h => absurd h (by decide), fun h => absurd h (by decide), fun _ M' hM' => ?_⟩
    obtain rfl : mX5_sameKinds = M' := Option.some.inj ((show ab_gM (hb_Gx O X) 1285 = some mX5_sameKinds from rfl).symm.trans hM')
    exact ⟨fun _ => (hb_w6 178 (by decide +kernel)), ca_mX5_sameKinds.1, ca_mX5_sameKinds.2, fun _ => ⟨ci_mX5_sameKinds, cs_mX5_sameKinds, _, rfl, rfl⟩, fun h => absurd h (by decide), fun h => absurd h (by decide), fun h => absurd h (by decide)⟩
  · cases h
    refine ⟨fun h => absurd h (by decide), fun h => absurd h (by decide), fun h => absurd h (by decide), fun h => absurd h (by decide), fun h => absurd h (by decide), fun _ M' hM' => ?_⟩
    obtain rfl : mX6_whoAsksMore = M' := Option.some.inj ((show ab_gM (hb_Gx O X) 1539 = some mX6_whoAsksMore from rfl).symm.trans hM')
    exact ⟨fun _ => (hb_w6 179 (by decide +kernel)), ca_mX6_whoAsksMore.1, ca_mX6_whoAsksMore.2, fun _ => ⟨ci_mX6_whoAsksMore, cs_mX6_whoAsksMore, _, rfl, rfl⟩, fun h => absurd h (by decide), fun h => absurd h (by decide), fun h => absurd h (by decide)⟩
  · cases h
    refine ⟨fun h => absurd h (by decide), fun h => absurd h (by decide), fun h => absurd h (by decide), fun h => absurd h (by decide), fun h => absurd h (by decide), fun _ M' hM' => ?_⟩
    obtain rfl : mX2_spotInRow = M' := Option.some.inj ((show ab_gM (hb_Gx O X) 515 = some mX2_spotInRow from rfl).symm.trans hM')
    exact ⟨fun _ => (hb_w6 233 (by decide +kernel)), ca_mX2_spotInRow.1, ca_mX2_spotInRow.2, fun _ => ⟨ci_mX2_spotInRow, cs_mX2_spotInRow, _, rfl, rfl⟩, fun h => absurd h (by decide), fun h => absurd h (by decide), fun h => absurd h (by decide)⟩
  · cases h
    refine ⟨fun h => absurd h (by decide), fun h => absurd h (by decide), fun h => absurd h (by decide), fun h => absurd h (by decide), fun h => absurd h (by decide), fun _ M' hM' => ?_⟩
    obtain rfl : mX2_isBelow = M' := Option.some.inj ((show ab_gM (hb_Gx O X) 513 = some mX2_isBelow from rfl).symm.trans hM')
    exact ⟨fun _ => (hb_w6 195 (by decide +kernel)), ca_mX2_isBelow.1, ca_mX2_isBelow.2, fun _ => ⟨ci_mX2_isBelow, cs_mX2_isBelow, _, rfl, rfl⟩, fun h => absurd h (by decide), fun h => absurd h (by decide), fun h => absurd h (by decide)⟩
  · cases h
    refine ⟨fun h => absurd h (by decide), fun h => absurd h (by decide), fun h => absurd h (by decide), fun h => absurd h (by decide), fun h => absurd h (by decide), fun _ M' hM' => ?_⟩
    obtain rfl : mJ6_compare_7cf53 = M' := Option.some.inj ((show ab_gM (hb_Gx O X) 8448 = some mJ6_compare_7cf53 from rfl).symm.trans hM')
    exact ⟨fun _ => (hb_w6 237 (by decide +kernel)), ca_mJ6_compare_7cf53.1, ca_mJ6_compare_7cf53.2, fun h => absurd h (by decide), fun _ => ct_mJ6_compare_7cf53, fun h => absurd h (by decide), fun h => absurd h (by decide)⟩
  · cases h
    refine ⟨fun h => absurd h (by decide), fun h => absurd h (by decide), fun h => absurd h (by decide), fun h => absurd h (by decide), fun h => absurd h (by decide), fun _ M' hM' => ?_⟩
    obtain rfl : mX5_asked = M' := Option.some.inj ((show ab_gM (hb_Gx O X) 1284 = some mX5_asked from rfl).symm.trans hM')
    exact ⟨fun _ => (hb_w6 183 (by decide +kernel)), ca_mX5_asked.1, ca_mX5_asked.2, fun _ => ⟨ci_mX5_asked, cs_mX5_asked, _, rfl, rfl⟩, fun h => absurd h (by decide), fun h => absurd h (by decide), fun h => absurd h (by decide)⟩
  · cases h
    refine ⟨fun h => absurd h (by decide), fun h => absurd h (by decide), fun h => absurd h (by decide), fun h => absurd h (by decide), fun h => absurd h (by decide), fun _ M' hM' => ?_⟩
    obtain rfl : mX6_makeRoomForAll = M' := Option.some.inj ((show ab_gM (hb_Gx O X) 1540 = some mX6_makeRoomForAll from rfl).symm.trans hM')
    exact ⟨fun _ => (hb_w6 187 (by decide +kernel)), ca_mX6_makeRoomForAll.1, ca_mX6_makeRoomForAll.2, fun _ => ⟨ci_mX6_makeRoomForAll, cs_mX6_makeRoomForAll, _, rfl, rfl⟩, fun h => absurd h (by decide), fun h => absurd h (by decide), fun h => absurd h (by decide)⟩
  · cases h
    refine ⟨fun h => absurd h (by decide), fun h => absurd h (by decide), fun h => absurd h (by decide), fun h => absurd h (by decide), fun h => absurd h (by decide), fun _ M' hM' => ?_⟩
    obtain rfl : mX6_isTests = M' := Option.some.inj ((show ab_gM (hb_Gx O X) 1541 = some mX6_isTests from rfl).symm.trans hM')
    exact ⟨fun _ => (hb_w6 191 (by decide +kernel)), ca_mX6_isTests.1, ca_mX6_isTests.2, fun _ => ⟨ci_mX6_isTests, cs_mX6_isTests, _, rfl, rfl⟩, fun h => absurd h (by decide), fun h => absurd h (by decide), fun h => absurd h (by decide)⟩
  · cases h
    refine ⟨fun h => absurd h (by decide), fun h => absurd h (by decide), fun h => absurd h (by decide), fun h => absurd h (by decide), fun h => absurd h (by decide), fun _ M' hM' => ?_⟩
    obtain rfl : mX9_empty = M' := Option.some.inj ((show ab_gM (hb_Gx O X) 2305 = some mX9_empty from rfl).symm.trans hM')
    exact ⟨fun _ => (hb_w6 196 (by decide +kernel)), ca_mX9_empty.1, ca_mX9_empty.2, fun _ => ⟨ci_mX9_empty, cs_mX9_empty, _, rfl, rfl⟩, fun h => absurd h (by decide), fun h => absurd h (by decide), fun h => absurd h (by decide)⟩
  · cases h
    refine ⟨fun h => absurd h (by decide), fun h => absurd h (by decide), fun h => absurd h (by decide), fun h => absurd h (by decide), fun h => absurd h (by decide), fun _ M' hM' => ?_⟩
    obtain rfl : mX9_cutBy = M' := Option.some.inj ((show ab_gM (hb_Gx O X) 2306 = some mX9_cutBy from rfl).symm.trans hM')
    exact ⟨fun _ => (hb_w6 200 (by decide +kernel)), ca_mX9_cutBy.1, ca_mX9_cutBy.2, fun _ => ⟨ci_mX9_cutBy, cs_mX9_cutBy, _, rfl, rfl⟩, fun h => absurd h (by decide), fun h => absurd h (by decide), fun h => absurd h (by decide)⟩
  · cases h
    refine ⟨fun h => absurd h (by decide), fun h => absurd h (by decide), fun h => absurd h (by decide), fun h => absurd h (by decide), fun h => absurd h (by decide), fun _ M' hM' => ?_⟩
    obtain rfl : mX9_begin = M' := Option.some.inj ((show ab_gM (hb_Gx O X) 2308 = some mX9_begin from rfl).symm.trans hM')
    exact ⟨fun _ => (hb_w6 210 (by decide +kernel)), ca_mX9_begin.1, ca_mX9_begin.2, fun _ => ⟨ci_mX9_begin, cs_mX9_begin, _, rfl, rfl⟩, fun h => absurd h (by decide), fun h => absurd h (by decide), fun h => absurd h (by decide)⟩
  · cases h
    refine ⟨fun h => absurd h (by decide), fun h => absurd h (by decide), fun h => absurd h (by decide), fun h => absurd h (by decide), fun h => absurd h (by decide), fun _ M' hM' => ?_⟩
    obtain rfl : mX9_toNextCell = M' := Option.some.inj ((show ab_gM (hb_Gx O X) 2309 = some mX9_toNextCell from rfl).symm.trans hM')
    exact ⟨fun _ => (hb_w6 215 (by decide +kernel)), ca_mX9_toNextCell.1, ca_mX9_toNextCell.2, fun _ => ⟨ci_mX9_toNextCell, cs_mX9_toNextCell, _, rfl, rfl⟩, fun h => absurd h (by decide), fun h => absurd h (by decide), fun h => absurd h (by decide)⟩
  · cases h
    refine ⟨fun h => absurd h (by decide), fun h => absurd h (by decide), fun h => absurd h (by decide), fun h => absurd h (by decide), fun h => absurd h (by decide), fun _ M' hM' => ?_⟩
    obtain rfl : mX9_isTakenBy = M' := Option.some.inj ((show ab_gM (hb_Gx O X) 2311 = some mX9_isTakenBy from rfl).symm.trans hM')
    exact ⟨fun _ => (hb_w6 224 (by decide +kernel)), ca_mX9_isTakenBy.1, ca_mX9_isTakenBy.2, fun _ => ⟨ci_mX9_isTakenBy, cs_mX9_isTakenBy, _, rfl, rfl⟩, fun h => absurd h (by decide), fun h => absurd h (by decide), fun h => absurd h (by decide)⟩
  · cases h
theorem hb_T7_ok (O : Nat → Option FieldType) (X : ab_X) : ∀ (ix sort y na ci : Nat), hb_T7 ix = some (sort, y, na, ci) → ∀ M : ab_MI, ab_mo M = 7 → (ab_my M).cls = RX7 →
    (sort = 4 → Cond.methodLink (ab_my M).cls ix objectInit ∈ hb_TB ∧ Cond.instanceMethod objectInit ∈ hb_TB ∧ Cond.code objectInit ⟨#[0xb1]⟩ 1 none ∈ hb_TB) ∧
    (sort = 5 → Cond.methodLink (ab_my M).cls ix arraycopyName ∈ hb_TB ∧ Cond.native arraycopyName ∈ hb_TB ∧ Cond.static arraycopyName ∈ hb_TB ∧ Cond.initialized "java/lang/System" ∈ hb_TB) ∧
    (sort = 7 → Cond.methodLink (ab_my M).cls ix Lib.Math.max.name ∈ hb_TB ∧ Cond.static Lib.Math.max.name ∈ hb_TB ∧ Cond.initialized "java/lang/Math" ∈ hb_TB ∧ Cond.code Lib.Math.max.name Lib.Math.max.code 2 (some .int) ∈ hb_TB) ∧
    (sort = 8 → Cond.methodLink (ab_my M).cls ix Lib.Math.min.name ∈ hb_TB ∧ Cond.static Lib.Math.min.name ∈ hb_TB ∧ Cond.initialized "java/lang/Math" ∈ hb_TB ∧ Cond.code Lib.Math.min.name Lib.Math.min.code 2 (some .int) ∈ hb_TB) ∧
    (sort = 9 → Cond.methodLink (ab_my M).cls ix Lib.MathLoose.min_long.x ∈ hb_TB ∧ Cond.static Lib.MathLoose.min_long.x ∈ hb_TB ∧ Cond.initialized "java/lang/Math" ∈ hb_TB ∧ Cond.code Lib.MathLoose.min_long.x Lib.MathLoose.min_long.code 4 (some .long) ∈ hb_TB) ∧
    (sort < 4 ∨ sort = 6 → ∀ M' : ab_MI, ab_gM (hb_Gx O X) y = some M' → (sort ≠ 3 → Cond.methodLink (ab_my M).cls ix (ab_my M') ∈ hb_TB) ∧ Cond.initialized (ab_my M').cls ∈ hb_TB ∧ ((ab_my M').cls ≠ "java/lang/invoke/MethodHandle" ∧ (ab_my M').cls ≠ "java/lang/invoke/VarHandle" ∧ (parseMethodDescriptor (ab_my M').desc).map (fun d => d.parameters.length) = some na) ∧
      (sort = 0 → Cond.instanceMethod (ab_my M') ∈ hb_TB ∧ Cond.selects (ab_my M').cls (ab_my M') (ab_my M') ∈ hb_TB ∧ ∃ q : vw_C, (ab_gK (hb_Gx O X))[ci]? = some q ∧ q.1 = (ab_my M').cls) ∧
      (sort = 1 → Cond.static (ab_my M') ∈ hb_TB) ∧
      (sort = 6 → Cond.instanceMethod (ab_my M') ∈ hb_TB ∧ Cond.selects (ab_my M').cls (ab_my M') (ab_my M') ∈ hb_TB ∧ (ab_my M').cls = "java/lang/String") ∧
      (sort = 2 ∨ sort = 3 → (ab_my M').name = "<init>" ∧ Cond.instanceMethod (ab_my M') ∈ hb_TB ∧ ab_mr M' = none)) := by
  intro ix sort y na ci h M _ hcl
  rw [hcl]
  unfold hb_T7 at h
  split at h
  · cases h
    exact ⟨fun _ => ⟨(hb_w2 223 (by decide +kernel)), ca_obj.1, ca_obj.2⟩, fun h => absurd h (by decide), fun h => absurd h (by decide), fun h => absurd h (by decide), fun h => absurd h (by decide), fun h => absurd h (by decide)⟩
  · cases h
    refine ⟨fun h => absurd h (by decide), fun h => absurd h (by decide), fun h => absurd h (by decide), fun h => absurd h (by decide), fun h => absurd h (by decide), fun _ M' hM' => ?_⟩
    obtain rfl : mX8_init = M' := Option.some.inj ((show ab_gM (hb_Gx O X) 2048 = some mX8_init from rfl).symm.trans hM')
    exact ⟨fun h => absurd rfl h, ca_mX8_init.1, ca_mX8_init.2, fun h => absurd h (by decide), fun h => absurd h (by decide), fun h => absurd h (by decide), fun _ => ⟨rfl, ci_mX8_init, rfl⟩⟩
  · cases h
    refine ⟨fun h => absurd h (by decide), fun h => absurd h (by decide), fun h => absurd h (by decide), fun h => absurd h (by decide), fun h => absurd h (by decide), fun _ M' hM' => ?_⟩
    obtain rfl : mX8_cut = M' := Option.some.inj ((show ab_gM (hb_Gx O X) 2049 = some mX8_cut from rfl).symm.trans hM')
    exact ⟨fun _ => (hb_w4 153 (by decide +kernel)), ca_mX8_cut.1, ca_mX8_cut.2, fun _ => ⟨ci_mX8_cut, cs_mX8_cut, _, rfl, rfl⟩, fun h => absurd h (by decide), fun h => absurd h (by decide), fun h => absurd h (by decide)⟩
  · cases h
    refine ⟨fun h => absurd h (by decide), fun h => absurd h (by decide), fun h => absurd h (by decide), fun h => absurd h (by decide), fun h => absurd h (by decide), fun _ M' hM' => ?_⟩
    obtain rfl : mX7_begin = M' := Option.some.inj ((show ab_gM (hb_Gx O X) 1795 = some mX7_begin from rfl).symm.trans hM')
    exact ⟨fun _ => (hb_w5 11 (by decide +kernel)), ca_mX7_begin.1, ca_mX7_begin.2, fun _ => ⟨ci_mX7_begin, cs_mX7_begin, _, rfl, rfl⟩, fun h => absurd h (by decide), fun h => absurd h (by decide), fun h => absurd h (by decide)⟩
  · cases h
    refine ⟨fun h => absurd h (by decide), fun h => absurd h (by decide), fun h => absurd h (by decide), fun h => absurd h (by decide), fun h => absurd h (by decide), fun _ M' hM' => ?_⟩
    obtain rfl : mX11_keep = M' := Option.some.inj ((show ab_gM (hb_Gx O X) 2823 = some mX11_keep from rfl).symm.trans hM')
    exact ⟨fun _ => (hb_w5 15 (by decide +kernel)), ca_mX11_keep.1, ca_mX11_keep.2, fun _ => ⟨ci_mX11_keep, cs_mX11_keep, _, rfl, rfl⟩, fun h => absurd h (by decide), fun h => absurd h (by decide), fun h => absurd h (by decide)⟩
  · cases h
    refine ⟨fun h => absurd h (by decide), fun h => absurd h (by decide), fun h => absurd h (by decide), fun h => absurd h (by decide), fun h => absurd h (by decide), fun _ M' hM' => ?_⟩
    obtain rfl : mX7_sign = M' := Option.some.inj ((show ab_gM (hb_Gx O X) 1798 = some mX7_sign from rfl).symm.trans hM')
    exact ⟨fun _ => (hb_w5 22 (by decide +kernel)), ca_mX7_sign.1, ca_mX7_sign.2, fun _ => ⟨ci_mX7_sign, cs_mX7_sign, _, rfl, rfl⟩, fun h => absurd h (by decide), fun h => absurd h (by decide), fun h => absurd h (by decide)⟩
  · cases h
    refine ⟨fun h => absurd h (by decide), fun h => absurd h (by decide), fun h => absurd h (by decide), fun h => absurd h (by decide), fun h => absurd h (by decide), fun _ M' hM' => ?_⟩
    obtain rfl : mX7_readKind = M' := Option.some.inj ((show ab_gM (hb_Gx O X) 1803 = some mX7_readKind from rfl).symm.trans hM')
    exact ⟨fun _ => (hb_w5 26 (by decide +kernel)), ca_mX7_readKind.1, ca_mX7_readKind.2, fun _ => ⟨ci_mX7_readKind, cs_mX7_readKind, _, rfl, rfl⟩, fun h => absurd h (by decide), fun h => absurd h (by decide), fun h => absurd h (by decide)⟩
  · cases h
    refine ⟨fun h => absurd h (by decide), fun h => absurd h (by decide), fun h => absurd h (by decide), fun h => absurd h (by decide), fun h => absurd h (by decide), fun _ M' hM' => ?_⟩
    obtain rfl : mX7_readCall = M' := Option.some.inj ((show ab_gM (hb_Gx O X) 1804 = some mX7_readCall from rfl).symm.trans hM')
    exact ⟨fun _ => (hb_w5 67 (by decide +kernel)), ca_mX7_readCall.1, ca_mX7_readCall.2, fun _ => ⟨ci_mX7_readCall, cs_mX7_readCall, _, rfl, rfl⟩, fun h => absurd h (by decide), fun h => absurd h (by decide), fun h => absurd h (by decide)⟩
  · cases h
    refine ⟨fun h => absurd h (by decide), fun h => absurd h (by decide), fun h => absurd h (by decide), fun h => absurd h (by decide), fun h => absurd h (by decide), fun _ M' hM' => ?_⟩
    obtain rfl : mX7_readLayer = M' := Option.some.inj ((show ab_gM (hb_Gx O X) 1805 = some mX7_readLayer from rfl).symm.trans hM')
    exact ⟨fun _ => (hb_w5 72 (by decide +kernel)), ca_mX7_readLayer.1, ca_mX7_readLayer.2, fun _ => ⟨ci_mX7_readLayer, cs_mX7_readLayer, _, rfl, rfl⟩, fun h => absurd h (by decide), fun h => absurd h (by decide), fun h => absurd h (by decide)⟩
  · cases h
    refine ⟨fun h => absurd h (by decide), fun h => absurd h (by decide), fun h => absurd h (by decide), fun h => absurd h (by decide), fun h => absurd h (by decide), fun _ M' hM' => ?_⟩
    obtain rfl : mX7_readMethod = M' := Option.some.inj ((show ab_gM (hb_Gx O X) 1806 = some mX7_readMethod from rfl).symm.trans hM')
    exact ⟨fun _ => (hb_w5 76 (by decide +kernel)), ca_mX7_readMethod.1, ca_mX7_readMethod.2, fun _ => ⟨ci_mX7_readMethod, cs_mX7_readMethod, _, rfl, rfl⟩, fun h => absurd h (by decide), fun h => absurd h (by decide), fun h => absurd h (by decide)⟩
  · cases h
    refine ⟨fun h => absurd h (by decide), fun h => absurd h (by decide), fun h => absurd h (by decide), fun h => absurd h (by decide), fun h => absurd h (by decide), fun _ M' hM' => ?_⟩
    obtain rfl : mX7_take = M' := Option.some.inj ((show ab_gM (hb_Gx O X) 1799 = some mX7_take from rfl).symm.trans hM')
    exact ⟨fun _ => (hb_w5 30 (by decide +kernel)), ca_mX7_take.1, ca_mX7_take.2, fun _ => ⟨ci_mX7_take, cs_mX7_take, _, rfl, rfl⟩, fun h => absurd h (by decide), fun h => absurd h (by decide), fun h => absurd h (by decide)⟩
  · cases h
    refine ⟨fun h => absurd h (by decide), fun h => absurd h (by decide), fun h => absurd h (by decide), fun h => absurd h (by decide), fun h => absurd h (by decide), fun _ M' hM' => ?_⟩
    obtain rfl : mX7_isClean = M' := Option.some.inj ((show ab_gM (hb_Gx O X) 1796 = some mX7_isClean from rfl).symm.trans hM')
    exact ⟨fun _ => (hb_w5 61 (by decide +kernel)), ca_mX7_isClean.1, ca_mX7_isClean.2, fun _ => ⟨ci_mX7_isClean, cs_mX7_isClean, _, rfl, rfl⟩, fun h => absurd h (by decide), fun h => absurd h (by decide), fun h => absurd h (by decide)⟩
  · cases h
    refine ⟨fun h => absurd h (by decide), fun h => absurd h (by decide), fun h => absurd h (by decide), fun h => absurd h (by decide), fun h => absurd h (by decide), fun _ M' hM' => ?_⟩
    obtain rfl : mX11_takeStock = M' := Option.some.inj ((show ab_gM (hb_Gx O X) 2825 = some mX11_takeStock from rfl).symm.trans hM')
    exact ⟨fun _ => (hb_w5 218 (by decide +kernel)), ca_mX11_takeStock.1, ca_mX11_takeStock.2, fun _ => ⟨ci_mX11_takeStock, cs_mX11_takeStock, _, rfl, rfl⟩, fun h => absurd h (by decide), fun h => absurd h (by decide), fun h => absurd h (by decide)⟩
  · cases h
    refine ⟨fun h => absurd h (by decide), fun h => absurd h (by decide), fun h => absurd h (by decide), fun h => absurd h (by decide), fun h => absurd h (by decide), fun _ M' hM' => ?_⟩
    obtain rfl : mX11_goBack = M' := Option.some.inj ((show ab_gM (hb_Gx O X) 2824 = some mX11_goBack from rfl).symm.trans hM')
    exact ⟨fun _ => (hb_w5 219 (by decide +kernel)), ca_mX11_goBack.1, ca_mX11_goBack.2, fun _ => ⟨ci_mX11_goBack, cs_mX11_goBack, _, rfl, rfl⟩, fun h => absurd h (by decide), fun h => absurd h (by decide), fun h => absurd h (by decide)⟩
  · cases h
    refine ⟨fun h => absurd h (by decide), fun h => absurd h (by decide), fun h => absurd h (by decide), fun h => absurd h (by decide), fun h => absurd h (by decide), fun _ M' hM' => ?_⟩
    obtain rfl : mX7_verdict = M' := Option.some.inj ((show ab_gM (hb_Gx O X) 1797 = some mX7_verdict from rfl).symm.trans hM')
    exact ⟨fun _ => (hb_w5 223 (by decide +kernel)), ca_mX7_verdict.1, ca_mX7_verdict.2, fun _ => ⟨ci_mX7_verdict, cs_mX7_verdict, _, rfl, rfl⟩, fun h => absurd h (by decide), fun h => absurd h (by decide), fun h => absurd h (by decide)⟩
  · cases h
    refine ⟨fun h => absurd h (by decide), fun h => absurd h (by decide), fun h => absurd h (by decide), fun h => absurd h (by decide), fun h => absurd h (by decide), fun _ M' hM' => ?_⟩
    obtain rfl : mX7_readBody = M' := Option.some.inj ((show ab_gM (hb_Gx O X) 1814 = some mX7_readBody from rfl).symm.trans hM')
    exact ⟨fun _ => (hb_w5 121 (by decide +kernel)), ca_mX7_readBody.1, ca_mX7_readBody.2, fun _ => ⟨ci_mX7_readBody, cs_mX7_readBody, _, rfl, rfl⟩, fun h => absurd h (by decide), fun h => absurd h (by decide), fun h => absurd h (by decide)⟩
  · cases h
    refine ⟨fun h => absurd h (by decide), fun h => absurd h (by decide), fun h => absurd h (by decide), fun h => absurd h (by decide), fun h => absurd h (by decide), fun _ M' hM' => ?_⟩
    obtain rfl : mX11_isTold = M' := Option.some.inj ((show ab_gM (hb_Gx O X) 2819 = some mX11_isTold from rfl).symm.trans hM')
    exact ⟨fun _ => (hb_w5 38 (by decide +kernel)), ca_mX11_isTold.1, ca_mX11_isTold.2, fun _ => ⟨ci_mX11_isTold, cs_mX11_isTold, _, rfl, rfl⟩, fun h => absurd h (by decide), fun h => absurd h (by decide), fun h => absurd h (by decide)⟩
  · cases h
    refine ⟨fun h => absurd h (by decide), fun h => absurd h (by decide), fun h => absurd h (by decide), fun h => absurd h (by decide), fun h => absurd h (by decide), fun _ M' hM' => ?_⟩
    obtain rfl : mX7_breakRule = M' := Option.some.inj ((show ab_gM (hb_Gx O X) 1800 = some mX7_breakRule from rfl).symm.trans hM')
    exact ⟨fun _ => (hb_w5 46 (by decide +kernel)), ca_mX7_breakRule.1, ca_mX7_breakRule.2, fun _ => ⟨ci_mX7_breakRule, cs_mX7_breakRule, _, rfl, rfl⟩, fun h => absurd h (by decide), fun h => absurd h (by decide), fun h => absurd h (by decide)⟩
  · cases h
    refine ⟨fun h => absurd h (by decide), fun h => absurd h (by decide), fun h => absurd h (by decide), fun h => absurd h (by decide), fun h => absurd h (by decide), fun _ M' hM' => ?_⟩
    obtain rfl : mX11_isFull = M' := Option.some.inj ((show ab_gM (hb_Gx O X) 2820 = some mX11_isFull from rfl).symm.trans hM')
    exact ⟨fun _ => (hb_w5 50 (by decide +kernel)), ca_mX11_isFull.1, ca_mX11_isFull.2, fun _ => ⟨ci_mX11_isFull, cs_mX11_isFull, _, rfl, rfl⟩, fun h => absurd h (by decide), fun h => absurd h (by decide), fun h => absurd h (by decide)⟩
  · cases h
    refine ⟨fun h => absurd h (by decide), fun h => absurd h (by decide), fun h => absurd h (by decide), fun h => absurd h (by decide), fun h => absurd h (by decide), fun _ M' hM' => ?_⟩
    obtain rfl : mX11_find = M' := Option.some.inj ((show ab_gM (hb_Gx O X) 2818 = some mX11_find from rfl).symm.trans hM')
    exact ⟨fun _ => (hb_w5 55 (by decide +kernel)), ca_mX11_find.1, ca_mX11_find.2, fun _ => ⟨ci_mX11_find, cs_mX11_find, _, rfl, rfl⟩, fun h => absurd h (by decide), fun h => absurd h (by decide), fun h => absurd h (by decide)⟩
  · cases h
    refine ⟨fun h => absurd h (by decide), fun h => absurd h (by decide), fun h => absurd h (by decide), fun h => absurd h (by decide), fun h => absurd h (by decide), fun _ M' hM' => ?_⟩
    obtain rfl : mX7_takeNewName = M' := Option.some.inj ((show ab_gM (hb_Gx O X) 1801 = some mX7_takeNewName from rfl).symm.trans hM')
    exact ⟨fun _ => (hb_w5 34 (by decide +kernel)), ca_mX7_takeNewName.1, ca_mX7_takeNewName.2, fun _ => ⟨ci_mX7_takeNewName, cs_mX7_takeNewName, _, rfl, rfl⟩, fun h => absurd h (by decide), fun h => absurd h (by decide), fun h => absurd h (by decide)⟩
  · cases h
    refine ⟨fun h => absurd h (by decide), fun h => absurd h (by decide), fun h => absurd h (by decide), fun h => absurd h (by decide), fun h => absurd h (by decide), fun _ M' hM' => ?_⟩
    obtain rfl : mX7_takeKnownName = M' := Option.some.inj ((show ab_gM (hb_Gx O X) 1802 = some mX7_takeKnownName from rfl).symm.trans hM')
    exact ⟨fun _ => (hb_w5 51 (by decide +kernel)), ca_mX7_takeKnownName.1, ca_mX7_takeKnownName.2, fun _ => ⟨ci_mX7_takeKnownName, cs_mX7_takeKnownName, _, rfl, rfl⟩, fun h => absurd h (by decide), fun h => absurd h (by decide), fun h => absurd h (by decide)⟩
  · cases h
    refine ⟨fun h => absurd h (by decide), fun h => absurd h (by decide), fun h => absurd h (by decide), fun h => absurd h (by decide), fun h => absurd h (by decide), fun _ M' hM' => ?_⟩
    obtain rfl : mX2_isParent = M' := Option.some.inj ((show ab_gM (hb_Gx O X) 516 = some mX2_isParent from rfl).symm.trans hM')
    exact ⟨fun _ => (hb_w5 56 (by decide +kernel)), ca_mX2_isParent.1, ca_mX2_isParent.2, fun _ => ⟨ci_mX2_isParent, cs_mX2_isParent, _, rfl, rfl⟩, fun h => absurd h (by decide), fun h => absurd h (by decide), fun h => absurd h (by decide)⟩
  · cases h
    refine ⟨fun h => absurd h (by decide), fun h => absurd h (by decide), fun h => absurd h (by decide), fun h => absurd h (by decide), fun h => absurd h (by decide), fun _ M' hM' => ?_⟩
    obtain rfl : mX2_addParent = M' := Option.some.inj ((show ab_gM (hb_Gx O X) 517 = some mX2_addParent from rfl).symm.trans hM')
    exact ⟨fun _ => (hb_w5 60 (by decide +kernel)), ca_mX2_addParent.1, ca_mX2_addParent.2, fun _ => ⟨ci_mX2_addParent, cs_mX2_addParent, _, rfl, rfl⟩, fun h => absurd h (by decide), fun h => absurd h (by decide), fun h => absurd h (by decide)⟩
  · cases h
    refine ⟨fun h => absurd h (by decide), fun h => absurd h (by decide), fun h => absurd h (by decide), fun h => absurd h (by decide), fun h => absurd h (by decide), fun _ M' hM' => ?_⟩
    obtain rfl : mX2_make = M' := Option.some.inj ((show ab_gM (hb_Gx O X) 518 = some mX2_make from rfl).symm.trans hM')
    exact ⟨fun _ => (hb_w5 65 (by decide +kernel)), ca_mX2_make.1, ca_mX2_make.2, fun _ => ⟨ci_mX2_make, cs_mX2_make, _, rfl, rfl⟩, fun h => absurd h (by decide), fun h => absurd h (by decide), fun h => absurd h (by decide)⟩
  · cases h
    refine ⟨fun h => absurd h (by decide), fun h => absurd h (by decide), fun h => absurd h (by decide), fun h => absurd h (by decide), fun h => absurd h (by decide), fun _ M' hM' => ?_⟩
    obtain rfl : mX11_addName = M' := Option.some.inj ((show ab_gM (hb_Gx O X) 2821 = some mX11_addName from rfl).symm.trans hM')
    exact ⟨fun _ => (hb_w5 66 (by decide +kernel)), ca_mX11_addName.1, ca_mX11_addName.2, fun _ => ⟨ci_mX11_addName, cs_mX11_addName, _, rfl, rfl⟩, fun h => absurd h (by decide), fun h => absurd h (by decide), fun h => absurd h (by decide)⟩
  · cases h
    refine ⟨fun h => absurd h (by decide), fun h => absurd h (by decide), fun h => absurd h (by decide), fun h => absurd h (by decide), fun h => absurd h (by decide), fun _ M' hM' => ?_⟩
    obtain rfl : mX5_open = M' := Option.some.inj ((show ab_gM (hb_Gx O X) 1282 = some mX5_open from rfl).symm.trans hM')
    exact ⟨fun _ => (hb_w5 80 (by decide +kernel)), ca_mX5_open.1, ca_mX5_open.2, fun _ => ⟨ci_mX5_open, cs_mX5_open, _, rfl, rfl⟩, fun h => absurd h (by decide), fun h => absurd h (by decide), fun h => absurd h (by decide)⟩
  · cases h
    refine ⟨fun h => absurd h (by decide), fun h => absurd h (by decide), fun h => absurd h (by decide), fun h => absurd h (by decide), fun h => absurd h (by decide), fun _ M' hM' => ?_⟩
    obtain rfl : mX7_readSpecs = M' := Option.some.inj ((show ab_gM (hb_Gx O X) 1807 = some mX7_readSpecs from rfl).symm.trans hM')
    exact ⟨fun _ => (hb_w5 85 (by decide +kernel)), ca_mX7_readSpecs.1, ca_mX7_readSpecs.2, fun _ => ⟨ci_mX7_readSpecs, cs_mX7_readSpecs, _, rfl, rfl⟩, fun h => absurd h (by decide), fun h => absurd h (by decide), fun h => absurd h (by decide)⟩
  · cases h
    refine ⟨fun h => absurd h (by decide), fun h => absurd h (by decide), fun h => absurd h (by decide), fun h => absurd h (by decide), fun h => absurd h (by decide), fun _ M' hM' => ?_⟩
    obtain rfl : mX7_readTest = M' := Option.some.inj ((show ab_gM (hb_Gx O X) 1810 = some mX7_readTest from rfl).symm.trans hM')
    exact ⟨fun _ => (hb_w5 97 (by decide +kernel)), ca_mX7_readTest.1, ca_mX7_readTest.2, fun _ => ⟨ci_mX7_readTest, cs_mX7_readTest, _, rfl, rfl⟩, fun h => absurd h (by decide), fun h => absurd h (by decide), fun h => absurd h (by decide)⟩
  · cases h
    refine ⟨fun h => absurd h (by decide), fun h => absurd h (by decide), fun h => absurd h (by decide), fun h => absurd h (by decide), fun h => absurd h (by decide), fun _ M' hM' => ?_⟩
    obtain rfl : mX5_hasTwin = M' := Option.some.inj ((show ab_gM (hb_Gx O X) 1287 = some mX5_hasTwin from rfl).symm.trans hM')
    exact ⟨fun _ => (hb_w5 206 (by decide +kernel)), ca_mX5_hasTwin.1, ca_mX5_hasTwin.2, fun _ => ⟨ci_mX5_hasTwin, cs_mX5_hasTwin, _, rfl, rfl⟩, fun h => absurd h (by decide), fun h => absurd h (by decide), fun h => absurd h (by decide)⟩
  · cases h
    refine ⟨fun h => absurd h (by decide), fun h => absurd h (by decide), fun h => absurd h (by decide), fun h => absurd h (by decide), fun h => absurd h (by decide), fun _ M' hM' => ?_⟩
    obtain rfl : mX7_readSpec = M' := Option.some.inj ((show ab_gM (hb_Gx O X) 1808 = some mX7_readSpec from rfl).symm.trans hM')
    exact ⟨fun _ => (hb_w5 89 (by decide +kernel)), ca_mX7_readSpec.1, ca_mX7_readSpec.2, fun _ => ⟨ci_mX7_readSpec, cs_mX7_readSpec, _, rfl, rfl⟩, fun h => absurd h (by decide), fun h => absurd h (by decide), fun h => absurd h (by decide)⟩
  · cases h
    refine ⟨fun h => absurd h (by decide), fun h => absurd h (by decide), fun h => absurd h (by decide), fun h => absurd h (by decide), fun h => absurd h (by decide), fun _ M' hM' => ?_⟩
    obtain rfl : mX7_takeNumber = M' := Option.some.inj ((show ab_gM (hb_Gx O X) 1809 = some mX7_takeNumber from rfl).symm.trans hM')
    exact ⟨fun _ => (hb_w5 93 (by decide +kernel)), ca_mX7_takeNumber.1, ca_mX7_takeNumber.2, fun _ => ⟨ci_mX7_takeNumber, cs_mX7_takeNumber, _, rfl, rfl⟩, fun h => absurd h (by decide), fun h => absurd h (by decide), fun h => absurd h (by decide)⟩
  · cases h
    refine ⟨fun h => absurd h (by decide), fun h => absurd h (by decide), fun h => absurd h (by decide), fun h => absurd h (by decide), fun h => absurd h (by decide), fun _ M' hM' => ?_⟩
    obtain rfl : mX7_readOneOfTest = M' := Option.some.inj ((show ab_gM (hb_Gx O X) 1811 = some mX7_readOneOfTest from rfl).symm.trans hM')
    exact ⟨fun _ => (hb_w5 102 (by decide +kernel)), ca_mX7_readOneOfTest.1, ca_mX7_readOneOfTest.2, fun _ => ⟨ci_mX7_readOneOfTest, cs_mX7_readOneOfTest, _, rfl, rfl⟩, fun h => absurd h (by decide), fun h => absurd h (by decide), fun h => absurd h (by decide)⟩
  · cases h
    refine ⟨fun h => absurd h (by decide), fun h => absurd h (by decide), fun h => absurd h (by decide), fun h => absurd h (by decide), fun h => absurd h (by decide), fun _ M' hM' => ?_⟩
    obtain rfl : mX7_readComparison = M' := Option.some.inj ((show ab_gM (hb_Gx O X) 1812 = some mX7_readComparison from rfl).symm.trans hM')
    exact ⟨fun _ => (hb_w5 108 (by decide +kernel)), ca_mX7_readComparison.1, ca_mX7_readComparison.2, fun _ => ⟨ci_mX7_readComparison, cs_mX7_readComparison, _, rfl, rfl⟩, fun h => absurd h (by decide), fun h => absurd h (by decide), fun h => absurd h (by decide)⟩
  · cases h
    exact ⟨fun h => absurd h (by decide), fun h => absurd h (by decide), fun _ => ⟨(hb_w5 112 (by decide +kernel)), ca_m7⟩, fun h => absurd h (by decide), fun h => absurd h (by decide), fun h => absurd h (by decide)⟩
  · cases h
    refine ⟨fun h => absurd h (by decide), fun h => absurd h (by decide), fun h => absurd h (by decide), fun h => absurd h (by decide), fun h => absurd h (by decide), fun _ M' hM' => ?_⟩
    obtain rfl : mX5_addTest = M' := Option.some.inj ((show ab_gM (hb_Gx O X) 1283 = some mX5_addTest from rfl).symm.trans hM')
    exact ⟨fun _ => (hb_w5 113 (by decide +kernel)), ca_mX5_addTest.1, ca_mX5_addTest.2, fun _ => ⟨ci_mX5_addTest, cs_mX5_addTest, _, rfl, rfl⟩, fun h => absurd h (by decide), fun h => absurd h (by decide), fun h => absurd h (by decide)⟩
  · cases h
    refine ⟨fun h => absurd h (by decide), fun h => absurd h (by decide), fun h => absurd h (by decide), fun h => absurd h (by decide), fun h => absurd h (by decide), fun _ M' hM' => ?_⟩
    obtain rfl : mX7_readTerm = M' := Option.some.inj ((show ab_gM (hb_Gx O X) 1813 = some mX7_readTerm from rfl).symm.trans hM')
    exact ⟨fun _ => (hb_w5 117 (by decide +kernel)), ca_mX7_readTerm.1, ca_mX7_readTerm.2, fun _ => ⟨ci_mX7_readTerm, cs_mX7_readTerm, _, rfl, rfl⟩, fun h => absurd h (by decide), fun h => absurd h (by decide), fun h => absurd h (by decide)⟩
  · cases h
    refine ⟨fun h => absurd h (by decide), fun h => absurd h (by decide), fun h => absurd h (by decide), fun h => absurd h (by decide), fun h => absurd h (by decide), fun _ M' hM' => ?_⟩
    obtain rfl : mX1_open = M' := Option.some.inj ((show ab_gM (hb_Gx O X) 257 = some mX1_open from rfl).symm.trans hM')
    exact ⟨fun _ => (hb_w5 125 (by decide +kernel)), ca_mX1_open.1, ca_mX1_open.2, fun _ => ⟨ci_mX1_open, cs_mX1_open, _, rfl, rfl⟩, fun h => absurd h (by decide), fun h => absurd h (by decide), fun h => absurd h (by decide)⟩
  · cases h
    refine ⟨fun h => absurd h (by decide), fun h => absurd h (by decide), fun h => absurd h (by decide), fun h => absurd h (by decide), fun h => absurd h (by decide), fun _ M' hM' => ?_⟩
    obtain rfl : mX7_readE = M' := Option.some.inj ((show ab_gM (hb_Gx O X) 1816 = some mX7_readE from rfl).symm.trans hM')
    exact ⟨fun _ => (hb_w5 142 (by decide +kernel)), ca_mX7_readE.1, ca_mX7_readE.2, fun _ => ⟨ci_mX7_readE, cs_mX7_readE, _, rfl, rfl⟩, fun h => absurd h (by decide), fun h => absurd h (by decide), fun h => absurd h (by decide)⟩
  · cases h
    refine ⟨fun h => absurd h (by decide), fun h => absurd h (by decide), fun h => absurd h (by decide), fun h => absurd h (by decide), fun h => absurd h (by decide), fun _ M' hM' => ?_⟩
    obtain rfl : mX1_emit = M' := Option.some.inj ((show ab_gM (hb_Gx O X) 258 = some mX1_emit from rfl).symm.trans hM')
    exact ⟨fun _ => (hb_w5 158 (by decide +kernel)), ca_mX1_emit.1, ca_mX1_emit.2, fun _ => ⟨ci_mX1_emit, cs_mX1_emit, _, rfl, rfl⟩, fun h => absurd h (by decide), fun h => absurd h (by decide), fun h => absurd h (by decide)⟩
  · cases h
    refine ⟨fun h => absurd h (by decide), fun h => absurd h (by decide), fun h => absurd h (by decide), fun h => absurd h (by decide), fun h => absurd h (by decide), fun _ M' hM' => ?_⟩
    obtain rfl : mX7_readLet = M' := Option.some.inj ((show ab_gM (hb_Gx O X) 1817 = some mX7_readLet from rfl).symm.trans hM')
    exact ⟨fun _ => (hb_w5 146 (by decide +kernel)), ca_mX7_readLet.1, ca_mX7_readLet.2, fun _ => ⟨ci_mX7_readLet, cs_mX7_readLet, _, rfl, rfl⟩, fun h => absurd h (by decide), fun h => absurd h (by decide), fun h => absurd h (by decide)⟩
  · cases h
    refine ⟨fun h => absurd h (by decide), fun h => absurd h (by decide), fun h => absurd h (by decide), fun h => absurd h (by decide), fun h => absurd h (by decide), fun _ M' hM' => ?_⟩
    obtain rfl : mX7_readIf = M' := Option.some.inj ((show ab_gM (hb_Gx O X) 1819 = some mX7_readIf from rfl).symm.trans hM')
    exact ⟨fun _ => (hb_w5 162 (by decide +kernel)), ca_mX7_readIf.1, ca_mX7_readIf.2, fun _ => ⟨ci_mX7_readIf, cs_mX7_readIf, _, rfl, rfl⟩, fun h => absurd h (by decide), fun h => absurd h (by decide), fun h => absurd h (by decide)⟩
  · cases h
    refine ⟨fun h => absurd h (by decide), fun h => absurd h (by decide), fun h => absurd h (by decide), fun h => absurd h (by decide), fun h => absurd h (by decide), fun _ M' hM' => ?_⟩
    obtain rfl : mX7_readWith = M' := Option.some.inj ((show ab_gM (hb_Gx O X) 1820 = some mX7_readWith from rfl).symm.trans hM')
    exact ⟨fun _ => (hb_w5 170 (by decide +kernel)), ca_mX7_readWith.1, ca_mX7_readWith.2, fun _ => ⟨ci_mX7_readWith, cs_mX7_readWith, _, rfl, rfl⟩, fun h => absurd h (by decide), fun h => absurd h (by decide), fun h => absurd h (by decide)⟩
  · cases h
    refine ⟨fun h => absurd h (by decide), fun h => absurd h (by decide), fun h => absurd h (by decide), fun h => absurd h (by decide), fun h => absurd h (by decide), fun _ M' hM' => ?_⟩
    obtain rfl : mX7_readTry = M' := Option.some.inj ((show ab_gM (hb_Gx O X) 1821 = some mX7_readTry from rfl).symm.trans hM')
    exact ⟨fun _ => (hb_w5 174 (by decide +kernel)), ca_mX7_readTry.1, ca_mX7_readTry.2, fun _ => ⟨ci_mX7_readTry, cs_mX7_readTry, _, rfl, rfl⟩, fun h => absurd h (by decide), fun h => absurd h (by decide), fun h => absurd h (by decide)⟩
  · cases h
    refine ⟨fun h => absurd h (by decide), fun h => absurd h (by decide), fun h => absurd h (by decide), fun h => absurd h (by decide), fun h => absurd h (by decide), fun _ M' hM' => ?_⟩
    obtain rfl : mX7_addNode = M' := Option.some.inj ((show ab_gM (hb_Gx O X) 1815 = some mX7_addNode from rfl).symm.trans hM')
    exact ⟨fun _ => (hb_w5 150 (by decide +kernel)), ca_mX7_addNode.1, ca_mX7_addNode.2, fun _ => ⟨ci_mX7_addNode, cs_mX7_addNode, _, rfl, rfl⟩, fun h => absurd h (by decide), fun h => absurd h (by decide), fun h => absurd h (by decide)⟩
  · cases h
    refine ⟨fun h => absurd h (by decide), fun h => absurd h (by decide), fun h => absurd h (by decide), fun h => absurd h (by decide), fun h => absurd h (by decide), fun _ M' hM' => ?_⟩
    obtain rfl : mX7_readCompared = M' := Option.some.inj ((show ab_gM (hb_Gx O X) 1822 = some mX7_readCompared from rfl).symm.trans hM')
    exact ⟨fun _ => (hb_w5 178 (by decide +kernel)), ca_mX7_readCompared.1, ca_mX7_readCompared.2, fun _ => ⟨ci_mX7_readCompared, cs_mX7_readCompared, _, rfl, rfl⟩, fun h => absurd h (by decide), fun h => absurd h (by decide), fun h => absurd h (by decide)⟩
  · cases h
    refine ⟨fun h => absurd h (by decide), fun h => absurd h (by decide), fun h => absurd h (by decide), fun h => absurd h (by decide), fun h => absurd h (by decide), fun _ M' hM' => ?_⟩
    obtain rfl : mX7_readWithVariable = M' := Option.some.inj ((show ab_gM (hb_Gx O X) 1818 = some mX7_readWithVariable from rfl).symm.trans hM')
    exact ⟨fun _ => (hb_w5 154 (by decide +kernel)), ca_mX7_readWithVariable.1, ca_mX7_readWithVariable.2, fun _ => ⟨ci_mX7_readWithVariable, cs_mX7_readWithVariable, _, rfl, rfl⟩, fun h => absurd h (by decide), fun h => absurd h (by decide), fun h => absurd h (by decide)⟩
  · cases h
    refine ⟨fun h => absurd h (by decide), fun h => absurd h (by decide), fun h => absurd h (by decide), fun h => absurd h (by decide), fun h => absurd h (by decide), fun _ M' hM' => ?_⟩
    obtain rfl : mX1_aim = M' := Option.some.inj ((show ab_gM (hb_Gx O X) 259 = some mX1_aim from rfl).symm.trans hM')
    exact ⟨fun _ => (hb_w5 166 (by decide +kernel)), ca_mX1_aim.1, ca_mX1_aim.2, fun _ => ⟨ci_mX1_aim, cs_mX1_aim, _, rfl, rfl⟩, fun h => absurd h (by decide), fun h => absurd h (by decide), fun h => absurd h (by decide)⟩
  · cases h
    refine ⟨fun h => absurd h (by decide), fun h => absurd h (by decide), fun h => absurd h (by decide), fun h => absurd h (by decide), fun h => absurd h (by decide), fun _ M' hM' => ?_⟩
    obtain rfl : mX7_readSum = M' := Option.some.inj ((show ab_gM (hb_Gx O X) 1823 = some mX7_readSum from rfl).symm.trans hM')
    exact ⟨fun _ => (hb_w5 182 (by decide +kernel)), ca_mX7_readSum.1, ca_mX7_readSum.2, fun _ => ⟨ci_mX7_readSum, cs_mX7_readSum, _, rfl, rfl⟩, fun h => absurd h (by decide), fun h => absurd h (by decide), fun h => absurd h (by decide)⟩
  · cases h
    refine ⟨fun h => absurd h (by decide), fun h => absurd h (by decide), fun h => absurd h (by decide), fun h => absurd h (by decide), fun h => absurd h (by decide), fun _ M' hM' => ?_⟩
    obtain rfl : mX7_readProduct = M' := Option.some.inj ((show ab_gM (hb_Gx O X) 1824 = some mX7_readProduct from rfl).symm.trans hM')
    exact ⟨fun _ => (hb_w5 186 (by decide +kernel)), ca_mX7_readProduct.1, ca_mX7_readProduct.2, fun _ => ⟨ci_mX7_readProduct, cs_mX7_readProduct, _, rfl, rfl⟩, fun h => absurd h (by decide), fun h => absurd h (by decide), fun h => absurd h (by decide)⟩
  · cases h
    refine ⟨fun h => absurd h (by decide), fun h => absurd h (by decide), fun h => absurd h (by decide), fun h => absurd h (by decide), fun h => absurd h (by decide), fun _ M' hM' => ?_⟩
    obtain rfl : mX7_readP = M' := Option.some.inj ((show ab_gM (hb_Gx O X) 1825 = some mX7_readP from rfl).symm.trans hM')
    exact ⟨fun _ => (hb_w5 190 (by decide +kernel)), ca_mX7_readP.1, ca_mX7_readP.2, fun _ => ⟨ci_mX7_readP, cs_mX7_readP, _, rfl, rfl⟩, fun h => absurd h (by decide), fun h => absurd h (by decide), fun h => absurd h (by decide)⟩
  · cases h
    refine ⟨fun h => absurd h (by decide), fun h => absurd h (by decide), fun h => absurd h (by decide), fun h => absurd h (by decide), fun h => absurd h (by decide), fun _ M' hM' => ?_⟩
    obtain rfl : mX7_readNamed = M' := Option.some.inj ((show ab_gM (hb_Gx O X) 1826 = some mX7_readNamed from rfl).symm.trans hM')
    exact ⟨fun _ => (hb_w5 194 (by decide +kernel)), ca_mX7_readNamed.1, ca_mX7_readNamed.2, fun _ => ⟨ci_mX7_readNamed, cs_mX7_readNamed, _, rfl, rfl⟩, fun h => absurd h (by decide), fun h => absurd h (by decide), fun h => absurd h (by decide)⟩
  · cases h
    refine ⟨fun h => absurd h (by decide), fun h => absurd h (by decide), fun h => absurd h (by decide), fun h => absurd h (by decide), fun h => absurd h (by decide), fun _ M' hM' => ?_⟩
    obtain rfl : mX7_readNext = M' := Option.some.inj ((show ab_gM (hb_Gx O X) 1827 = some mX7_readNext from rfl).symm.trans hM')
    exact ⟨fun _ => (hb_w5 202 (by decide +kernel)), ca_mX7_readNext.1, ca_mX7_readNext.2, fun _ => ⟨ci_mX7_readNext, cs_mX7_readNext, _, rfl, rfl⟩, fun h => absurd h (by decide), fun h => absurd h (by decide), fun h => absurd h (by decide)⟩
  · cases h
    refine ⟨fun h => absurd h (by decide), fun h => absurd h (by decide), fun h => absurd h (by decide), fun h => absurd h (by decide), fun h => absurd h (by decide), fun _ M' hM' => ?_⟩
    obtain rfl : mX7_readArguments = M' := Option.some.inj ((show ab_gM (hb_Gx O X) 1828 = some mX7_readArguments from rfl).symm.trans hM')
    exact ⟨fun _ => (hb_w5 198 (by decide +kernel)), ca_mX7_readArguments.1, ca_mX7_readArguments.2, fun _ => ⟨ci_mX7_readArguments, cs_mX7_readArguments, _, rfl, rfl⟩, fun h => absurd h (by decide), fun h => absurd h (by decide), fun h => absurd h (by decide)⟩
  · cases h
theorem hb_T8_ok (O : Nat → Option FieldType) (X : ab_X) : ∀ (ix sort y na ci : Nat), hb_T8 ix = some (sort, y, na, ci) → ∀ M : ab_MI, ab_mo M = 8 → (ab_my M).cls = RX8 →
    (sort = 4 → Cond.methodLink (ab_my M).cls ix objectInit ∈ hb_TB ∧ Cond.instanceMethod objectInit ∈ hb_TB ∧ Cond.code objectInit ⟨#[0xb1]⟩ 1 none ∈ hb_TB) ∧
    (sort = 5 → Cond.methodLink (ab_my M).cls ix arraycopyName ∈ hb_TB ∧ Cond.native arraycopyName ∈ hb_TB ∧ Cond.static arraycopyName ∈ hb_TB ∧ Cond.initialized "java/lang/System" ∈ hb_TB) ∧
    (sort = 7 → Cond.methodLink (ab_my M).cls ix Lib.Math.max.name ∈ hb_TB ∧ Cond.static Lib.Math.max.name ∈ hb_TB ∧ Cond.initialized "java/lang/Math" ∈ hb_TB ∧ Cond.code Lib.Math.max.name Lib.Math.max.code 2 (some .int) ∈ hb_TB) ∧
    (sort = 8 → Cond.methodLink (ab_my M).cls ix Lib.Math.min.name ∈ hb_TB ∧ Cond.static Lib.Math.min.name ∈ hb_TB ∧ Cond.initialized "java/lang/Math" ∈ hb_TB ∧ Cond.code Lib.Math.min.name Lib.Math.min.code 2 (some .int) ∈ hb_TB) ∧
    (sort = 9 → Cond.methodLink (ab_my M).cls ix Lib.MathLoose.min_long.x ∈ hb_TB ∧ Cond.static Lib.MathLoose.min_long.x ∈ hb_TB ∧ Cond.initialized "java/lang/Math" ∈ hb_TB ∧ Cond.code Lib.MathLoose.min_long.x Lib.MathLoose.min_long.code 4 (some .long) ∈ hb_TB) ∧
    (sort < 4 ∨ sort = 6 → ∀ M' : ab_MI, ab_gM (hb_Gx O X) y = some M' → (sort ≠ 3 → Cond.methodLink (ab_my M).cls ix (ab_my M') ∈ hb_TB) ∧ Cond.initialized (ab_my M').cls ∈ hb_TB ∧ ((ab_my M').cls ≠ "java/lang/invoke/MethodHandle" ∧ (ab_my M').cls ≠ "java/lang/invoke/VarHandle" ∧ (parseMethodDescriptor (ab_my M').desc).map (fun d => d.parameters.length) = some na) ∧
      (sort = 0 → Cond.instanceMethod (ab_my M') ∈ hb_TB ∧ Cond.selects (ab_my M').cls (ab_my M') (ab_my M') ∈ hb_TB ∧ ∃ q : vw_C, (ab_gK (hb_Gx O X))[ci]? = some q ∧ q.1 = (ab_my M').cls) ∧
      (sort = 1 → Cond.static (ab_my M') ∈ hb_TB) ∧
      (sort = 6 → Cond.instanceMethod (ab_my M') ∈ hb_TB ∧ Cond.selects (ab_my M').cls (ab_my M') (ab_my M') ∈ hb_TB ∧ (ab_my M').cls = "java/lang/String") ∧
      (sort = 2 ∨ sort = 3 → (ab_my M').name = "<init>" ∧ Cond.instanceMethod (ab_my M') ∈ hb_TB ∧ ab_mr M' = none)) := by
  intro ix sort y na ci h M _ hcl
  rw [hcl]
  unfold hb_T8 at h
  split at h
  · cases h
    exact ⟨fun _ => ⟨(hb_w2 229 (by decide +kernel)), ca_obj.1, ca_obj.2⟩, fun h => absurd h (by decide), fun h => absurd h (by decide), fun h => absurd h (by decide), fun h => absurd h (by decide), fun h => absurd h (by decide)⟩
  · cases h
    exact ⟨fun h => absurd h (by decide), fun h => absurd h (by decide), fun _ => ⟨(hb_w4 157 (by decide +kernel)), ca_m7⟩, fun h => absurd h (by decide), fun h => absurd h (by decide), fun h => absurd h (by decide)⟩
  · cases h
    refine ⟨fun h => absurd h (by decide), fun h => absurd h (by decide), fun h => absurd h (by decide), fun h => absurd h (by decide), fun h => absurd h (by decide), fun _ M' hM' => ?_⟩
    obtain rfl : mX8_cutOne = M' := Option.some.inj ((show ab_gM (hb_Gx O X) 2051 = some mX8_cutOne from rfl).symm.trans hM')
    exact ⟨fun _ => (hb_w4 160 (by decide +kernel)), ca_mX8_cutOne.1, ca_mX8_cutOne.2, fun _ => ⟨ci_mX8_cutOne, cs_mX8_cutOne, _, rfl, rfl⟩, fun h => absurd h (by decide), fun h => absurd h (by decide), fun h => absurd h (by decide)⟩
  · cases h
    refine ⟨fun h => absurd h (by decide), fun h => absurd h (by decide), fun h => absurd h (by decide), fun h => absurd h (by decide), fun h => absurd h (by decide), fun _ M' hM' => ?_⟩
    obtain rfl : mX8_put = M' := Option.some.inj ((show ab_gM (hb_Gx O X) 2050 = some mX8_put from rfl).symm.trans hM')
    exact ⟨fun _ => (hb_w4 174 (by decide +kernel)), ca_mX8_put.1, ca_mX8_put.2, fun _ => ⟨ci_mX8_put, cs_mX8_put, _, rfl, rfl⟩, fun h => absurd h (by decide), fun h => absurd h (by decide), fun h => absurd h (by decide)⟩
  · cases h
    refine ⟨fun h => absurd h (by decide), fun h => absurd h (by decide), fun h => absurd h (by decide), fun h => absurd h (by decide), fun h => absurd h (by decide), fun _ M' hM' => ?_⟩
    obtain rfl : mX8_cutNumber = M' := Option.some.inj ((show ab_gM (hb_Gx O X) 2052 = some mX8_cutNumber from rfl).symm.trans hM')
    exact ⟨fun _ => (hb_w4 164 (by decide +kernel)), ca_mX8_cutNumber.1, ca_mX8_cutNumber.2, fun _ => ⟨ci_mX8_cutNumber, cs_mX8_cutNumber, _, rfl, rfl⟩, fun h => absurd h (by decide), fun h => absurd h (by decide), fun h => absurd h (by decide)⟩
  · cases h
    refine ⟨fun h => absurd h (by decide), fun h => absurd h (by decide), fun h => absurd h (by decide), fun h => absurd h (by decide), fun h => absurd h (by decide), fun _ M' hM' => ?_⟩
    obtain rfl : mX8_codeOf = M' := Option.some.inj ((show ab_gM (hb_Gx O X) 2055 = some mX8_codeOf from rfl).symm.trans hM')
    exact ⟨fun _ => (hb_w2 30 (by decide +kernel)), ca_mX8_codeOf.1, ca_mX8_codeOf.2, fun h => absurd h (by decide), fun _ => ct_mX8_codeOf, fun h => absurd h (by decide), fun h => absurd h (by decide)⟩
  · cases h
    refine ⟨fun h => absurd h (by decide), fun h => absurd h (by decide), fun h => absurd h (by decide), fun h => absurd h (by decide), fun h => absurd h (by decide), fun _ M' hM' => ?_⟩
    obtain rfl : mX8_cutName = M' := Option.some.inj ((show ab_gM (hb_Gx O X) 2053 = some mX8_cutName from rfl).symm.trans hM')
    exact ⟨fun _ => (hb_w4 178 (by decide +kernel)), ca_mX8_cutName.1, ca_mX8_cutName.2, fun _ => ⟨ci_mX8_cutName, cs_mX8_cutName, _, rfl, rfl⟩, fun h => absurd h (by decide), fun h => absurd h (by decide), fun h => absurd h (by decide)⟩
  · cases h
    refine ⟨fun h => absurd h (by decide), fun h => absurd h (by decide), fun h => absurd h (by decide), fun h => absurd h (by decide), fun h => absurd h (by decide), fun _ M' hM' => ?_⟩
    obtain rfl : mX8_cutMark = M' := Option.some.inj ((show ab_gM (hb_Gx O X) 2054 = some mX8_cutMark from rfl).symm.trans hM')
    exact ⟨fun _ => (hb_w4 189 (by decide +kernel)), ca_mX8_cutMark.1, ca_mX8_cutMark.2, fun _ => ⟨ci_mX8_cutMark, cs_mX8_cutMark, _, rfl, rfl⟩, fun h => absurd h (by decide), fun h => absurd h (by decide), fun h => absurd h (by decide)⟩
  · cases h
    exact ⟨fun h => absurd h (by decide), fun h => absurd h (by decide), fun h => absurd h (by decide), fun h => absurd h (by decide), fun _ => ⟨(hb_w4 170 (by decide +kernel)), ca_m9⟩, fun h => absurd h (by decide)⟩
  · cases h
    refine ⟨fun h => absurd h (by decide), fun h => absurd h (by decide), fun h => absurd h (by decide), fun h => absurd h (by decide), fun h => absurd h (by decide), fun _ M' hM' => ?_⟩
    obtain rfl : mX8_wordOrName = M' := Option.some.inj ((show ab_gM (hb_Gx O X) 2057 = some mX8_wordOrName from rfl).symm.trans hM')
    exact ⟨fun _ => (hb_w4 182 (by decide +kernel)), ca_mX8_wordOrName.1, ca_mX8_wordOrName.2, fun h => absurd h (by decide), fun _ => ct_mX8_wordOrName, fun h => absurd h (by decide), fun h => absurd h (by decide)⟩
  · cases h
    refine ⟨fun h => absurd h (by decide), fun h => absurd h (by decide), fun h => absurd h (by decide), fun h => absurd h (by decide), fun h => absurd h (by decide), fun _ M' hM' => ?_⟩
    obtain rfl : mJ0_indexOf_0f7a4 = M' := Option.some.inj ((show ab_gM (hb_Gx O X) 9475 = some mJ0_indexOf_0f7a4 from rfl).symm.trans hM')
    exact ⟨fun _ => (hb_w4 194 (by decide +kernel)), ca_mJ0_indexOf_0f7a4.1, ca_mJ0_indexOf_0f7a4.2, fun h => absurd h (by decide), fun h => absurd h (by decide), fun _ => ⟨ci_mJ0_indexOf_0f7a4, cs_mJ0_indexOf_0f7a4, rfl⟩, fun h => absurd h (by decide)⟩
  · cases h
    refine ⟨fun h => absurd h (by decide), fun h => absurd h (by decide), fun h => absurd h (by decide), fun h => absurd h (by decide), fun h => absurd h (by decide), fun _ M' hM' => ?_⟩
    obtain rfl : mJ0_length_8abf5 = M' := Option.some.inj ((show ab_gM (hb_Gx O X) 9472 = some mJ0_length_8abf5 from rfl).symm.trans hM')
    exact ⟨fun _ => (hb_w1 222 (by decide +kernel)), ca_mJ0_length_8abf5.1, ca_mJ0_length_8abf5.2, fun h => absurd h (by decide), fun h => absurd h (by decide), fun _ => ⟨ci_mJ0_length_8abf5, cs_mJ0_length_8abf5, rfl⟩, fun h => absurd h (by decide)⟩
  · cases h
    refine ⟨fun h => absurd h (by decide), fun h => absurd h (by decide), fun h => absurd h (by decide), fun h => absurd h (by decide), fun h => absurd h (by decide), fun _ M' hM' => ?_⟩
    obtain rfl : mJ0_charAt_5068e = M' := Option.some.inj ((show ab_gM (hb_Gx O X) 9473 = some mJ0_charAt_5068e from rfl).symm.trans hM')
    exact ⟨fun _ => (hb_w1 232 (by decide +kernel)), ca_mJ0_charAt_5068e.1, ca_mJ0_charAt_5068e.2, fun h => absurd h (by decide), fun h => absurd h (by decide), fun _ => ⟨ci_mJ0_charAt_5068e, cs_mJ0_charAt_5068e, rfl⟩, fun h => absurd h (by decide)⟩
  · cases h
    refine ⟨fun h => absurd h (by decide), fun h => absurd h (by decide), fun h => absurd h (by decide), fun h => absurd h (by decide), fun h => absurd h (by decide), fun _ M' hM' => ?_⟩
    obtain rfl : mX8_isWord = M' := Option.some.inj ((show ab_gM (hb_Gx O X) 2058 = some mX8_isWord from rfl).symm.trans hM')
    exact ⟨fun _ => (hb_w4 186 (by decide +kernel)), ca_mX8_isWord.1, ca_mX8_isWord.2, fun h => absurd h (by decide), fun _ => ct_mX8_isWord, fun h => absurd h (by decide), fun h => absurd h (by decide)⟩
  · cases h
theorem hb_T9_ok (O : Nat → Option FieldType) (X : ab_X) : ∀ (ix sort y na ci : Nat), hb_T9 ix = some (sort, y, na, ci) → ∀ M : ab_MI, ab_mo M = 9 → (ab_my M).cls = RX9 →
    (sort = 4 → Cond.methodLink (ab_my M).cls ix objectInit ∈ hb_TB ∧ Cond.instanceMethod objectInit ∈ hb_TB ∧ Cond.code objectInit ⟨#[0xb1]⟩ 1 none ∈ hb_TB) ∧
    (sort = 5 → Cond.methodLink (ab_my M).cls ix arraycopyName ∈ hb_TB ∧ Cond.native arraycopyName ∈ hb_TB ∧ Cond.static arraycopyName ∈ hb_TB ∧ Cond.initialized "java/lang/System" ∈ hb_TB) ∧
    (sort = 7 → Cond.methodLink (ab_my M).cls ix Lib.Math.max.name ∈ hb_TB ∧ Cond.static Lib.Math.max.name ∈ hb_TB ∧ Cond.initialized "java/lang/Math" ∈ hb_TB ∧ Cond.code Lib.Math.max.name Lib.Math.max.code 2 (some .int) ∈ hb_TB) ∧
    (sort = 8 → Cond.methodLink (ab_my M).cls ix Lib.Math.min.name ∈ hb_TB ∧ Cond.static Lib.Math.min.name ∈ hb_TB ∧ Cond.initialized "java/lang/Math" ∈ hb_TB ∧ Cond.code Lib.Math.min.name Lib.Math.min.code 2 (some .int) ∈ hb_TB) ∧
    (sort = 9 → Cond.methodLink (ab_my M).cls ix Lib.MathLoose.min_long.x ∈ hb_TB ∧ Cond.static Lib.MathLoose.min_long.x ∈ hb_TB ∧ Cond.initialized "java/lang/Math" ∈ hb_TB ∧ Cond.code Lib.MathLoose.min_long.x Lib.MathLoose.min_long.code 4 (some .long) ∈ hb_TB) ∧
    (sort < 4 ∨ sort = 6 → ∀ M' : ab_MI, ab_gM (hb_Gx O X) y = some M' → (sort ≠ 3 → Cond.methodLink (ab_my M).cls ix (ab_my M') ∈ hb_TB) ∧ Cond.initialized (ab_my M').cls ∈ hb_TB ∧ ((ab_my M').cls ≠ "java/lang/invoke/MethodHandle" ∧ (ab_my M').cls ≠ "java/lang/invoke/VarHandle" ∧ (parseMethodDescriptor (ab_my M').desc).map (fun d => d.parameters.length) = some na) ∧
      (sort = 0 → Cond.instanceMethod (ab_my M') ∈ hb_TB ∧ Cond.selects (ab_my M').cls (ab_my M') (ab_my M') ∈ hb_TB ∧ ∃ q : vw_C, (ab_gK (hb_Gx O X))[ci]? = some q ∧ q.1 = (ab_my M').cls) ∧
      (sort = 1 → Cond.static (ab_my M') ∈ hb_TB) ∧
      (sort = 6 → Cond.instanceMethod (ab_my M') ∈ hb_TB ∧ Cond.selects (ab_my M').cls (ab_my M') (ab_my M') ∈ hb_TB ∧ (ab_my M').cls = "java/lang/String") ∧
      (sort = 2 ∨ sort = 3 → (ab_my M').name = "<init>" ∧ Cond.instanceMethod (ab_my M') ∈ hb_TB ∧ ab_mr M' = none)) := by
  intro ix sort y na ci h M _ hcl
  rw [hcl]
  unfold hb_T9 at h
  split at h
  · cases h
    exact ⟨fun _ => ⟨(hb_w3 63 (by decide +kernel)), ca_obj.1, ca_obj.2⟩, fun h => absurd h (by decide), fun h => absurd h (by decide), fun h => absurd h (by decide), fun h => absurd h (by decide), fun h => absurd h (by decide)⟩
  · cases h
    refine ⟨fun h => absurd h (by decide), fun h => absurd h (by decide), fun h => absurd h (by decide), fun h => absurd h (by decide), fun h => absurd h (by decide), fun _ M' hM' => ?_⟩
    obtain rfl : mX9_addCut = M' := Option.some.inj ((show ab_gM (hb_Gx O X) 2307 = some mX9_addCut from rfl).symm.trans hM')
    exact ⟨fun _ => (hb_w6 204 (by decide +kernel)), ca_mX9_addCut.1, ca_mX9_addCut.2, fun _ => ⟨ci_mX9_addCut, cs_mX9_addCut, _, rfl, rfl⟩, fun h => absurd h (by decide), fun h => absurd h (by decide), fun h => absurd h (by decide)⟩
  · cases h
    refine ⟨fun h => absurd h (by decide), fun h => absurd h (by decide), fun h => absurd h (by decide), fun h => absurd h (by decide), fun h => absurd h (by decide), fun _ M' hM' => ?_⟩
    obtain rfl : mX2_isBelow = M' := Option.some.inj ((show ab_gM (hb_Gx O X) 513 = some mX2_isBelow from rfl).symm.trans hM')
    exact ⟨fun _ => (hb_w6 208 (by decide +kernel)), ca_mX2_isBelow.1, ca_mX2_isBelow.2, fun _ => ⟨ci_mX2_isBelow, cs_mX2_isBelow, _, rfl, rfl⟩, fun h => absurd h (by decide), fun h => absurd h (by decide), fun h => absurd h (by decide)⟩
  · cases h
    refine ⟨fun h => absurd h (by decide), fun h => absurd h (by decide), fun h => absurd h (by decide), fun h => absurd h (by decide), fun h => absurd h (by decide), fun _ M' hM' => ?_⟩
    obtain rfl : mX9_goToSide = M' := Option.some.inj ((show ab_gM (hb_Gx O X) 2310 = some mX9_goToSide from rfl).symm.trans hM')
    exact ⟨fun _ => (hb_w6 220 (by decide +kernel)), ca_mX9_goToSide.1, ca_mX9_goToSide.2, fun _ => ⟨ci_mX9_goToSide, cs_mX9_goToSide, _, rfl, rfl⟩, fun h => absurd h (by decide), fun h => absurd h (by decide), fun h => absurd h (by decide)⟩
  · cases h
    refine ⟨fun h => absurd h (by decide), fun h => absurd h (by decide), fun h => absurd h (by decide), fun h => absurd h (by decide), fun h => absurd h (by decide), fun _ M' hM' => ?_⟩
    obtain rfl : mX9_holds = M' := Option.some.inj ((show ab_gM (hb_Gx O X) 2312 = some mX9_holds from rfl).symm.trans hM')
    exact ⟨fun _ => (hb_w6 228 (by decide +kernel)), ca_mX9_holds.1, ca_mX9_holds.2, fun _ => ⟨ci_mX9_holds, cs_mX9_holds, _, rfl, rfl⟩, fun h => absurd h (by decide), fun h => absurd h (by decide), fun h => absurd h (by decide)⟩
  · cases h
theorem hb_T10_ok (O : Nat → Option FieldType) (X : ab_X) : ∀ (ix sort y na ci : Nat), hb_T10 ix = some (sort, y, na, ci) → ∀ M : ab_MI, ab_mo M = 10 → (ab_my M).cls = RX10 →
    (sort = 4 → Cond.methodLink (ab_my M).cls ix objectInit ∈ hb_TB ∧ Cond.instanceMethod objectInit ∈ hb_TB ∧ Cond.code objectInit ⟨#[0xb1]⟩ 1 none ∈ hb_TB) ∧
    (sort = 5 → Cond.methodLink (ab_my M).cls ix arraycopyName ∈ hb_TB ∧ Cond.native arraycopyName ∈ hb_TB ∧ Cond.static arraycopyName ∈ hb_TB ∧ Cond.initialized "java/lang/System" ∈ hb_TB) ∧
    (sort = 7 → Cond.methodLink (ab_my M).cls ix Lib.Math.max.name ∈ hb_TB ∧ Cond.static Lib.Math.max.name ∈ hb_TB ∧ Cond.initialized "java/lang/Math" ∈ hb_TB ∧ Cond.code Lib.Math.max.name Lib.Math.max.code 2 (some .int) ∈ hb_TB) ∧
    (sort = 8 → Cond.methodLink (ab_my M).cls ix Lib.Math.min.name ∈ hb_TB ∧ Cond.static Lib.Math.min.name ∈ hb_TB ∧ Cond.initialized "java/lang/Math" ∈ hb_TB ∧ Cond.code Lib.Math.min.name Lib.Math.min.code 2 (some .int) ∈ hb_TB) ∧
    (sort = 9 → Cond.methodLink (ab_my M).cls ix Lib.MathLoose.min_long.x ∈ hb_TB ∧ Cond.static Lib.MathLoose.min_long.x ∈ hb_TB ∧ Cond.initialized "java/lang/Math" ∈ hb_TB ∧ Cond.code Lib.MathLoose.min_long.x Lib.MathLoose.min_long.code 4 (some .long) ∈ hb_TB) ∧
    (sort < 4 ∨ sort = 6 → ∀ M' : ab_MI, ab_gM (hb_Gx O X) y = some M' → (sort ≠ 3 → Cond.methodLink (ab_my M).cls ix (ab_my M') ∈ hb_TB) ∧ Cond.initialized (ab_my M').cls ∈ hb_TB ∧ ((ab_my M').cls ≠ "java/lang/invoke/MethodHandle" ∧ (ab_my M').cls ≠ "java/lang/invoke/VarHandle" ∧ (parseMethodDescriptor (ab_my M').desc).map (fun d => d.parameters.length) = some na) ∧
      (sort = 0 → Cond.instanceMethod (ab_my M') ∈ hb_TB ∧ Cond.selects (ab_my M').cls (ab_my M') (ab_my M') ∈ hb_TB ∧ ∃ q : vw_C, (ab_gK (hb_Gx O X))[ci]? = some q ∧ q.1 = (ab_my M').cls) ∧
      (sort = 1 → Cond.static (ab_my M') ∈ hb_TB) ∧
      (sort = 6 → Cond.instanceMethod (ab_my M') ∈ hb_TB ∧ Cond.selects (ab_my M').cls (ab_my M') (ab_my M') ∈ hb_TB ∧ (ab_my M').cls = "java/lang/String") ∧
      (sort = 2 ∨ sort = 3 → (ab_my M').name = "<init>" ∧ Cond.instanceMethod (ab_my M') ∈ hb_TB ∧ ab_mr M' = none)) := by
  intro ix sort y na ci h M _ hcl
  rw [hcl]
  unfold hb_T10 at h
  split at h
  · cases h
    exact ⟨fun _ => ⟨(hb_w3 167 (by decide +kernel)), ca_obj.1, ca_obj.2⟩, fun h => absurd h (by decide), fun h => absurd h (by decide), fun h => absurd h (by decide), fun h => absurd h (by decide), fun h => absurd h (by decide)⟩
  · cases h
    refine ⟨fun h => absurd h (by decide), fun h => absurd h (by decide), fun h => absurd h (by decide), fun h => absurd h (by decide), fun h => absurd h (by decide), fun _ M' hM' => ?_⟩
    obtain rfl : mX9_init = M' := Option.some.inj ((show ab_gM (hb_Gx O X) 2304 = some mX9_init from rfl).symm.trans hM')
    exact ⟨fun _ => (hb_w3 169 (by decide +kernel)), ca_mX9_init.1, ca_mX9_init.2, fun h => absurd h (by decide), fun h => absurd h (by decide), fun h => absurd h (by decide), fun _ => ⟨rfl, ci_mX9_init, rfl⟩⟩
  · cases h
    refine ⟨fun h => absurd h (by decide), fun h => absurd h (by decide), fun h => absurd h (by decide), fun h => absurd h (by decide), fun h => absurd h (by decide), fun _ M' hM' => ?_⟩
    obtain rfl : mX10_goToRow = M' := Option.some.inj ((show ab_gM (hb_Gx O X) 2562 = some mX10_goToRow from rfl).symm.trans hM')
    exact ⟨fun _ => (hb_w7 78 (by decide +kernel)), ca_mX10_goToRow.1, ca_mX10_goToRow.2, fun _ => ⟨ci_mX10_goToRow, cs_mX10_goToRow, _, rfl, rfl⟩, fun h => absurd h (by decide), fun h => absurd h (by decide), fun h => absurd h (by decide)⟩
  · cases h
    refine ⟨fun h => absurd h (by decide), fun h => absurd h (by decide), fun h => absurd h (by decide), fun h => absurd h (by decide), fun h => absurd h (by decide), fun _ M' hM' => ?_⟩
    obtain rfl : mX10_gatherFitting = M' := Option.some.inj ((show ab_gM (hb_Gx O X) 2564 = some mX10_gatherFitting from rfl).symm.trans hM')
    exact ⟨fun _ => (hb_w7 82 (by decide +kernel)), ca_mX10_gatherFitting.1, ca_mX10_gatherFitting.2, fun _ => ⟨ci_mX10_gatherFitting, cs_mX10_gatherFitting, _, rfl, rfl⟩, fun h => absurd h (by decide), fun h => absurd h (by decide), fun h => absurd h (by decide)⟩
  · cases h
    refine ⟨fun h => absurd h (by decide), fun h => absurd h (by decide), fun h => absurd h (by decide), fun h => absurd h (by decide), fun h => absurd h (by decide), fun _ M' hM' => ?_⟩
    obtain rfl : mX10_judgeRow = M' := Option.some.inj ((show ab_gM (hb_Gx O X) 2565 = some mX10_judgeRow from rfl).symm.trans hM')
    exact ⟨fun _ => (hb_w7 98 (by decide +kernel)), ca_mX10_judgeRow.1, ca_mX10_judgeRow.2, fun _ => ⟨ci_mX10_judgeRow, cs_mX10_judgeRow, _, rfl, rfl⟩, fun h => absurd h (by decide), fun h => absurd h (by decide), fun h => absurd h (by decide)⟩
  · cases h
    refine ⟨fun h => absurd h (by decide), fun h => absurd h (by decide), fun h => absurd h (by decide), fun h => absurd h (by decide), fun h => absurd h (by decide), fun _ M' hM' => ?_⟩
    obtain rfl : mX10_keepKinds = M' := Option.some.inj ((show ab_gM (hb_Gx O X) 2563 = some mX10_keepKinds from rfl).symm.trans hM')
    exact ⟨fun _ => (hb_w7 113 (by decide +kernel)), ca_mX10_keepKinds.1, ca_mX10_keepKinds.2, fun _ => ⟨ci_mX10_keepKinds, cs_mX10_keepKinds, _, rfl, rfl⟩, fun h => absurd h (by decide), fun h => absurd h (by decide), fun h => absurd h (by decide)⟩
  · cases h
    refine ⟨fun h => absurd h (by decide), fun h => absurd h (by decide), fun h => absurd h (by decide), fun h => absurd h (by decide), fun h => absurd h (by decide), fun _ M' hM' => ?_⟩
    obtain rfl : mX11_listFor = M' := Option.some.inj ((show ab_gM (hb_Gx O X) 2828 = some mX11_listFor from rfl).symm.trans hM')
    exact ⟨fun _ => (hb_w7 86 (by decide +kernel)), ca_mX11_listFor.1, ca_mX11_listFor.2, fun _ => ⟨ci_mX11_listFor, cs_mX11_listFor, _, rfl, rfl⟩, fun h => absurd h (by decide), fun h => absurd h (by decide), fun h => absurd h (by decide)⟩
  · cases h
    refine ⟨fun h => absurd h (by decide), fun h => absurd h (by decide), fun h => absurd h (by decide), fun h => absurd h (by decide), fun h => absurd h (by decide), fun _ M' hM' => ?_⟩
    obtain rfl : mX5_asked = M' := Option.some.inj ((show ab_gM (hb_Gx O X) 1284 = some mX5_asked from rfl).symm.trans hM')
    exact ⟨fun _ => (hb_w7 97 (by decide +kernel)), ca_mX5_asked.1, ca_mX5_asked.2, fun _ => ⟨ci_mX5_asked, cs_mX5_asked, _, rfl, rfl⟩, fun h => absurd h (by decide), fun h => absurd h (by decide), fun h => absurd h (by decide)⟩
  · cases h
    refine ⟨fun h => absurd h (by decide), fun h => absurd h (by decide), fun h => absurd h (by decide), fun h => absurd h (by decide), fun h => absurd h (by decide), fun _ M' hM' => ?_⟩
    obtain rfl : mX9_empty = M' := Option.some.inj ((show ab_gM (hb_Gx O X) 2305 = some mX9_empty from rfl).symm.trans hM')
    exact ⟨fun _ => (hb_w7 102 (by decide +kernel)), ca_mX9_empty.1, ca_mX9_empty.2, fun _ => ⟨ci_mX9_empty, cs_mX9_empty, _, rfl, rfl⟩, fun h => absurd h (by decide), fun h => absurd h (by decide), fun h => absurd h (by decide)⟩
  · cases h
    refine ⟨fun h => absurd h (by decide), fun h => absurd h (by decide), fun h => absurd h (by decide), fun h => absurd h (by decide), fun h => absurd h (by decide), fun _ M' hM' => ?_⟩
    obtain rfl : mX9_cutBy = M' := Option.some.inj ((show ab_gM (hb_Gx O X) 2306 = some mX9_cutBy from rfl).symm.trans hM')
    exact ⟨fun _ => (hb_w7 103 (by decide +kernel)), ca_mX9_cutBy.1, ca_mX9_cutBy.2, fun _ => ⟨ci_mX9_cutBy, cs_mX9_cutBy, _, rfl, rfl⟩, fun h => absurd h (by decide), fun h => absurd h (by decide), fun h => absurd h (by decide)⟩
  · cases h
    refine ⟨fun h => absurd h (by decide), fun h => absurd h (by decide), fun h => absurd h (by decide), fun h => absurd h (by decide), fun h => absurd h (by decide), fun _ M' hM' => ?_⟩
    obtain rfl : mX9_begin = M' := Option.some.inj ((show ab_gM (hb_Gx O X) 2308 = some mX9_begin from rfl).symm.trans hM')
    exact ⟨fun _ => (hb_w7 104 (by decide +kernel)), ca_mX9_begin.1, ca_mX9_begin.2, fun _ => ⟨ci_mX9_begin, cs_mX9_begin, _, rfl, rfl⟩, fun h => absurd h (by decide), fun h => absurd h (by decide), fun h => absurd h (by decide)⟩
  · cases h
    refine ⟨fun h => absurd h (by decide), fun h => absurd h (by decide), fun h => absurd h (by decide), fun h => absurd h (by decide), fun h => absurd h (by decide), fun _ M' hM' => ?_⟩
    obtain rfl : mX9_toNextCell = M' := Option.some.inj ((show ab_gM (hb_Gx O X) 2309 = some mX9_toNextCell from rfl).symm.trans hM')
    exact ⟨fun _ => (hb_w7 106 (by decide +kernel)), ca_mX9_toNextCell.1, ca_mX9_toNextCell.2, fun _ => ⟨ci_mX9_toNextCell, cs_mX9_toNextCell, _, rfl, rfl⟩, fun h => absurd h (by decide), fun h => absurd h (by decide), fun h => absurd h (by decide)⟩
  · cases h
    refine ⟨fun h => absurd h (by decide), fun h => absurd h (by decide), fun h => absurd h (by decide), fun h => absurd h (by decide), fun h => absurd h (by decide), fun _ M' hM' => ?_⟩
    obtain rfl : mX9_isTakenBy = M' := Option.some.inj ((show ab_gM (hb_Gx O X) 2311 = some mX9_isTakenBy from rfl).symm.trans hM')
    exact ⟨fun _ => (hb_w7 107 (by decide +kernel)), ca_mX9_isTakenBy.1, ca_mX9_isTakenBy.2, fun _ => ⟨ci_mX9_isTakenBy, cs_mX9_isTakenBy, _, rfl, rfl⟩, fun h => absurd h (by decide), fun h => absurd h (by decide), fun h => absurd h (by decide)⟩
  · cases h
    refine ⟨fun h => absurd h (by decide), fun h => absurd h (by decide), fun h => absurd h (by decide), fun h => absurd h (by decide), fun h => absurd h (by decide), fun _ M' hM' => ?_⟩
    obtain rfl : mX10_hasNearest = M' := Option.some.inj ((show ab_gM (hb_Gx O X) 2566 = some mX10_hasNearest from rfl).symm.trans hM')
    exact ⟨fun _ => (hb_w7 108 (by decide +kernel)), ca_mX10_hasNearest.1, ca_mX10_hasNearest.2, fun _ => ⟨ci_mX10_hasNearest, cs_mX10_hasNearest, _, rfl, rfl⟩, fun h => absurd h (by decide), fun h => absurd h (by decide), fun h => absurd h (by decide)⟩
  · cases h
    refine ⟨fun h => absurd h (by decide), fun h => absurd h (by decide), fun h => absurd h (by decide), fun h => absurd h (by decide), fun h => absurd h (by decide), fun _ M' hM' => ?_⟩
    obtain rfl : mX6_compare = M' := Option.some.inj ((show ab_gM (hb_Gx O X) 1538 = some mX6_compare from rfl).symm.trans hM')
    exact ⟨fun _ => (hb_w7 112 (by decide +kernel)), ca_mX6_compare.1, ca_mX6_compare.2, fun _ => ⟨ci_mX6_compare, cs_mX6_compare, _, rfl, rfl⟩, fun h => absurd h (by decide), fun h => absurd h (by decide), fun h => absurd h (by decide)⟩
  · cases h
theorem hb_T11_ok (O : Nat → Option FieldType) (X : ab_X) : ∀ (ix sort y na ci : Nat), hb_T11 ix = some (sort, y, na, ci) → ∀ M : ab_MI, ab_mo M = 11 → (ab_my M).cls = RX11 →
    (sort = 4 → Cond.methodLink (ab_my M).cls ix objectInit ∈ hb_TB ∧ Cond.instanceMethod objectInit ∈ hb_TB ∧ Cond.code objectInit ⟨#[0xb1]⟩ 1 none ∈ hb_TB) ∧
    (sort = 5 → Cond.methodLink (ab_my M).cls ix arraycopyName ∈ hb_TB ∧ Cond.native arraycopyName ∈ hb_TB ∧ Cond.static arraycopyName ∈ hb_TB ∧ Cond.initialized "java/lang/System" ∈ hb_TB) ∧
    (sort = 7 → Cond.methodLink (ab_my M).cls ix Lib.Math.max.name ∈ hb_TB ∧ Cond.static Lib.Math.max.name ∈ hb_TB ∧ Cond.initialized "java/lang/Math" ∈ hb_TB ∧ Cond.code Lib.Math.max.name Lib.Math.max.code 2 (some .int) ∈ hb_TB) ∧
    (sort = 8 → Cond.methodLink (ab_my M).cls ix Lib.Math.min.name ∈ hb_TB ∧ Cond.static Lib.Math.min.name ∈ hb_TB ∧ Cond.initialized "java/lang/Math" ∈ hb_TB ∧ Cond.code Lib.Math.min.name Lib.Math.min.code 2 (some .int) ∈ hb_TB) ∧
    (sort = 9 → Cond.methodLink (ab_my M).cls ix Lib.MathLoose.min_long.x ∈ hb_TB ∧ Cond.static Lib.MathLoose.min_long.x ∈ hb_TB ∧ Cond.initialized "java/lang/Math" ∈ hb_TB ∧ Cond.code Lib.MathLoose.min_long.x Lib.MathLoose.min_long.code 4 (some .long) ∈ hb_TB) ∧
    (sort < 4 ∨ sort = 6 → ∀ M' : ab_MI, ab_gM (hb_Gx O X) y = some M' → (sort ≠ 3 → Cond.methodLink (ab_my M).cls ix (ab_my M') ∈ hb_TB) ∧ Cond.initialized (ab_my M').cls ∈ hb_TB ∧ ((ab_my M').cls ≠ "java/lang/invoke/MethodHandle" ∧ (ab_my M').cls ≠ "java/lang/invoke/VarHandle" ∧ (parseMethodDescriptor (ab_my M').desc).map (fun d => d.parameters.length) = some na) ∧
      (sort = 0 → Cond.instanceMethod (ab_my M') ∈ hb_TB ∧ Cond.selects (ab_my M').cls (ab_my M') (ab_my M') ∈ hb_TB ∧ ∃ q : vw_C, (ab_gK (hb_Gx O X))[ci]? = some q ∧ q.1 = (ab_my M').cls) ∧
      (sort = 1 → Cond.static (ab_my M') ∈ hb_TB) ∧
      (sort = 6 → Cond.instanceMethod (ab_my M') ∈ hb_TB ∧ Cond.selects (ab_my M').cls (ab_my M') (ab_my M') ∈ hb_TB ∧ (ab_my M').cls = "java/lang/String") ∧
      (sort = 2 ∨ sort = 3 → (ab_my M').name = "<init>" ∧ Cond.instanceMethod (ab_my M') ∈ hb_TB ∧ ab_mr M' = none)) := by
  intro ix sort y na ci h M _ hcl
  rw [hcl]
  unfold hb_T11 at h
  split at h
  · cases h
    exact ⟨fun _ => ⟨(hb_w1 59 (by decide +kernel)), ca_obj.1, ca_obj.2⟩, fun h => absurd h (by decide), fun h => absurd h (by decide), fun h => absurd h (by decide), fun h => absurd h (by decide), fun h => absurd h (by decide)⟩
  · cases h
    refine ⟨fun h => absurd h (by decide), fun h => absurd h (by decide), fun h => absurd h (by decide), fun h => absurd h (by decide), fun h => absurd h (by decide), fun _ M' hM' => ?_⟩
    obtain rfl : mX2_init = M' := Option.some.inj ((show ab_gM (hb_Gx O X) 512 = some mX2_init from rfl).symm.trans hM')
    exact ⟨fun h => absurd rfl h, ca_mX2_init.1, ca_mX2_init.2, fun h => absurd h (by decide), fun h => absurd h (by decide), fun h => absurd h (by decide), fun _ => ⟨rfl, ci_mX2_init, rfl⟩⟩
  · cases h
    refine ⟨fun h => absurd h (by decide), fun h => absurd h (by decide), fun h => absurd h (by decide), fun h => absurd h (by decide), fun h => absurd h (by decide), fun _ M' hM' => ?_⟩
    obtain rfl : mX5_init = M' := Option.some.inj ((show ab_gM (hb_Gx O X) 1280 = some mX5_init from rfl).symm.trans hM')
    exact ⟨fun h => absurd rfl h, ca_mX5_init.1, ca_mX5_init.2, fun h => absurd h (by decide), fun h => absurd h (by decide), fun h => absurd h (by decide), fun _ => ⟨rfl, ci_mX5_init, rfl⟩⟩
  · cases h
    refine ⟨fun h => absurd h (by decide), fun h => absurd h (by decide), fun h => absurd h (by decide), fun h => absurd h (by decide), fun h => absurd h (by decide), fun _ M' hM' => ?_⟩
    obtain rfl : mX1_init = M' := Option.some.inj ((show ab_gM (hb_Gx O X) 256 = some mX1_init from rfl).symm.trans hM')
    exact ⟨fun h => absurd rfl h, ca_mX1_init.1, ca_mX1_init.2, fun h => absurd h (by decide), fun h => absurd h (by decide), fun h => absurd h (by decide), fun _ => ⟨rfl, ci_mX1_init, rfl⟩⟩
  · cases h
    refine ⟨fun h => absurd h (by decide), fun h => absurd h (by decide), fun h => absurd h (by decide), fun h => absurd h (by decide), fun h => absurd h (by decide), fun _ M' hM' => ?_⟩
    obtain rfl : mX8_packed = M' := Option.some.inj ((show ab_gM (hb_Gx O X) 2056 = some mX8_packed from rfl).symm.trans hM')
    exact ⟨fun _ => (hb_w1 219 (by decide +kernel)), ca_mX8_packed.1, ca_mX8_packed.2, fun h => absurd h (by decide), fun _ => ct_mX8_packed, fun h => absurd h (by decide), fun h => absurd h (by decide)⟩
  · cases h
    refine ⟨fun h => absurd h (by decide), fun h => absurd h (by decide), fun h => absurd h (by decide), fun h => absurd h (by decide), fun h => absurd h (by decide), fun _ M' hM' => ?_⟩
    obtain rfl : mX11_addName = M' := Option.some.inj ((show ab_gM (hb_Gx O X) 2821 = some mX11_addName from rfl).symm.trans hM')
    exact ⟨fun _ => (hb_w2 33 (by decide +kernel)), ca_mX11_addName.1, ca_mX11_addName.2, fun _ => ⟨ci_mX11_addName, cs_mX11_addName, _, rfl, rfl⟩, fun h => absurd h (by decide), fun h => absurd h (by decide), fun h => absurd h (by decide)⟩
  · cases h
    refine ⟨fun h => absurd h (by decide), fun h => absurd h (by decide), fun h => absurd h (by decide), fun h => absurd h (by decide), fun h => absurd h (by decide), fun _ M' hM' => ?_⟩
    obtain rfl : mX2_make = M' := Option.some.inj ((show ab_gM (hb_Gx O X) 518 = some mX2_make from rfl).symm.trans hM')
    exact ⟨fun _ => (hb_w2 47 (by decide +kernel)), ca_mX2_make.1, ca_mX2_make.2, fun _ => ⟨ci_mX2_make, cs_mX2_make, _, rfl, rfl⟩, fun h => absurd h (by decide), fun h => absurd h (by decide), fun h => absurd h (by decide)⟩
  · cases h
    refine ⟨fun h => absurd h (by decide), fun h => absurd h (by decide), fun h => absurd h (by decide), fun h => absurd h (by decide), fun h => absurd h (by decide), fun _ M' hM' => ?_⟩
    obtain rfl : mX2_addParent = M' := Option.some.inj ((show ab_gM (hb_Gx O X) 517 = some mX2_addParent from rfl).symm.trans hM')
    exact ⟨fun _ => (hb_w2 96 (by decide +kernel)), ca_mX2_addParent.1, ca_mX2_addParent.2, fun _ => ⟨ci_mX2_addParent, cs_mX2_addParent, _, rfl, rfl⟩, fun h => absurd h (by decide), fun h => absurd h (by decide), fun h => absurd h (by decide)⟩
  · cases h
    refine ⟨fun h => absurd h (by decide), fun h => absurd h (by decide), fun h => absurd h (by decide), fun h => absurd h (by decide), fun h => absurd h (by decide), fun _ M' hM' => ?_⟩
    obtain rfl : mX11_takeStock = M' := Option.some.inj ((show ab_gM (hb_Gx O X) 2825 = some mX11_takeStock from rfl).symm.trans hM')
    exact ⟨fun _ => (hb_w2 100 (by decide +kernel)), ca_mX11_takeStock.1, ca_mX11_takeStock.2, fun _ => ⟨ci_mX11_takeStock, cs_mX11_takeStock, _, rfl, rfl⟩, fun h => absurd h (by decide), fun h => absurd h (by decide), fun h => absurd h (by decide)⟩
  · cases h
    refine ⟨fun h => absurd h (by decide), fun h => absurd h (by decide), fun h => absurd h (by decide), fun h => absurd h (by decide), fun h => absurd h (by decide), fun _ M' hM' => ?_⟩
    obtain rfl : mX11_find = M' := Option.some.inj ((show ab_gM (hb_Gx O X) 2818 = some mX11_find from rfl).symm.trans hM')
    exact ⟨fun _ => (hb_w5 42 (by decide +kernel)), ca_mX11_find.1, ca_mX11_find.2, fun _ => ⟨ci_mX11_find, cs_mX11_find, _, rfl, rfl⟩, fun h => absurd h (by decide), fun h => absurd h (by decide), fun h => absurd h (by decide)⟩
  · cases h
    refine ⟨fun h => absurd h (by decide), fun h => absurd h (by decide), fun h => absurd h (by decide), fun h => absurd h (by decide), fun h => absurd h (by decide), fun _ M' hM' => ?_⟩
    obtain rfl : mX11_isFull = M' := Option.some.inj ((show ab_gM (hb_Gx O X) 2820 = some mX11_isFull from rfl).symm.trans hM')
    exact ⟨fun _ => (hb_w2 37 (by decide +kernel)), ca_mX11_isFull.1, ca_mX11_isFull.2, fun _ => ⟨ci_mX11_isFull, cs_mX11_isFull, _, rfl, rfl⟩, fun h => absurd h (by decide), fun h => absurd h (by decide), fun h => absurd h (by decide)⟩
  · cases h
    exact ⟨fun h => absurd h (by decide), fun _ => ⟨(hb_w5 19 (by decide +kernel)), ca_cpy⟩, fun h => absurd h (by decide), fun h => absurd h (by decide), fun h => absurd h (by decide), fun h => absurd h (by decide)⟩
  · cases h
    refine ⟨fun h => absurd h (by decide), fun h => absurd h (by decide), fun h => absurd h (by decide), fun h => absurd h (by decide), fun h => absurd h (by decide), fun _ M' hM' => ?_⟩
    obtain rfl : mJ7_fill_d0a16 = M' := Option.some.inj ((show ab_gM (hb_Gx O X) 11264 = some mJ7_fill_d0a16 from rfl).symm.trans hM')
    exact ⟨fun _ => (hb_w2 104 (by decide +kernel)), ca_mJ7_fill_d0a16.1, ca_mJ7_fill_d0a16.2, fun h => absurd h (by decide), fun _ => ct_mJ7_fill_d0a16, fun h => absurd h (by decide), fun h => absurd h (by decide)⟩
  · cases h
    refine ⟨fun h => absurd h (by decide), fun h => absurd h (by decide), fun h => absurd h (by decide), fun h => absurd h (by decide), fun h => absurd h (by decide), fun _ M' hM' => ?_⟩
    obtain rfl : mX5_isThere = M' := Option.some.inj ((show ab_gM (hb_Gx O X) 1281 = some mX5_isThere from rfl).symm.trans hM')
    exact ⟨fun _ => (hb_w2 107 (by decide +kernel)), ca_mX5_isThere.1, ca_mX5_isThere.2, fun _ => ⟨ci_mX5_isThere, cs_mX5_isThere, _, rfl, rfl⟩, fun h => absurd h (by decide), fun h => absurd h (by decide), fun h => absurd h (by decide)⟩
  · cases h
    refine ⟨fun h => absurd h (by decide), fun h => absurd h (by decide), fun h => absurd h (by decide), fun h => absurd h (by decide), fun h => absurd h (by decide), fun _ M' hM' => ?_⟩
    obtain rfl : mX11_takeStockOf = M' := Option.some.inj ((show ab_gM (hb_Gx O X) 2826 = some mX11_takeStockOf from rfl).symm.trans hM')
    exact ⟨fun _ => (hb_w2 111 (by decide +kernel)), ca_mX11_takeStockOf.1, ca_mX11_takeStockOf.2, fun _ => ⟨ci_mX11_takeStockOf, cs_mX11_takeStockOf, _, rfl, rfl⟩, fun h => absurd h (by decide), fun h => absurd h (by decide), fun h => absurd h (by decide)⟩
  · cases h
    refine ⟨fun h => absurd h (by decide), fun h => absurd h (by decide), fun h => absurd h (by decide), fun h => absurd h (by decide), fun h => absurd h (by decide), fun _ M' hM' => ?_⟩
    obtain rfl : mX2_isBelow = M' := Option.some.inj ((show ab_gM (hb_Gx O X) 513 = some mX2_isBelow from rfl).symm.trans hM')
    exact ⟨fun _ => (hb_w2 115 (by decide +kernel)), ca_mX2_isBelow.1, ca_mX2_isBelow.2, fun _ => ⟨ci_mX2_isBelow, cs_mX2_isBelow, _, rfl, rfl⟩, fun h => absurd h (by decide), fun h => absurd h (by decide), fun h => absurd h (by decide)⟩
  · cases h
    refine ⟨fun h => absurd h (by decide), fun h => absurd h (by decide), fun h => absurd h (by decide), fun h => absurd h (by decide), fun h => absurd h (by decide), fun _ M' hM' => ?_⟩
    obtain rfl : mJ13_bitCount_95d88 = M' := Option.some.inj ((show ab_gM (hb_Gx O X) 8961 = some mJ13_bitCount_95d88 from rfl).symm.trans hM')
    exact ⟨fun _ => (hb_w7 11 (by decide +kernel)), ca_mJ13_bitCount_95d88.1, ca_mJ13_bitCount_95d88.2, fun h => absurd h (by decide), fun _ => ct_mJ13_bitCount_95d88, fun h => absurd h (by decide), fun h => absurd h (by decide)⟩
  · cases h
    refine ⟨fun h => absurd h (by decide), fun h => absurd h (by decide), fun h => absurd h (by decide), fun h => absurd h (by decide), fun h => absurd h (by decide), fun _ M' hM' => ?_⟩
    obtain rfl : mJ13_numberOfTrailingZeros_95d88 = M' := Option.some.inj ((show ab_gM (hb_Gx O X) 8960 = some mJ13_numberOfTrailingZeros_95d88 from rfl).symm.trans hM')
    exact ⟨fun _ => (hb_w7 90 (by decide +kernel)), ca_mJ13_numberOfTrailingZeros_95d88.1, ca_mJ13_numberOfTrailingZeros_95d88.2, fun h => absurd h (by decide), fun _ => ct_mJ13_numberOfTrailingZeros_95d88, fun h => absurd h (by decide), fun h => absurd h (by decide)⟩
  · cases h
theorem hb_T12_ok (O : Nat → Option FieldType) (X : ab_X) : ∀ (ix sort y na ci : Nat), hb_T12 ix = some (sort, y, na, ci) → ∀ M : ab_MI, ab_mo M = 12 → (ab_my M).cls = RX12 →
    (sort = 4 → Cond.methodLink (ab_my M).cls ix objectInit ∈ hb_TB ∧ Cond.instanceMethod objectInit ∈ hb_TB ∧ Cond.code objectInit ⟨#[0xb1]⟩ 1 none ∈ hb_TB) ∧
    (sort = 5 → Cond.methodLink (ab_my M).cls ix arraycopyName ∈ hb_TB ∧ Cond.native arraycopyName ∈ hb_TB ∧ Cond.static arraycopyName ∈ hb_TB ∧ Cond.initialized "java/lang/System" ∈ hb_TB) ∧
    (sort = 7 → Cond.methodLink (ab_my M).cls ix Lib.Math.max.name ∈ hb_TB ∧ Cond.static Lib.Math.max.name ∈ hb_TB ∧ Cond.initialized "java/lang/Math" ∈ hb_TB ∧ Cond.code Lib.Math.max.name Lib.Math.max.code 2 (some .int) ∈ hb_TB) ∧
    (sort = 8 → Cond.methodLink (ab_my M).cls ix Lib.Math.min.name ∈ hb_TB ∧ Cond.static Lib.Math.min.name ∈ hb_TB ∧ Cond.initialized "java/lang/Math" ∈ hb_TB ∧ Cond.code Lib.Math.min.name Lib.Math.min.code 2 (some .int) ∈ hb_TB) ∧
    (sort = 9 → Cond.methodLink (ab_my M).cls ix Lib.MathLoose.min_long.x ∈ hb_TB ∧ Cond.static Lib.MathLoose.min_long.x ∈ hb_TB ∧ Cond.initialized "java/lang/Math" ∈ hb_TB ∧ Cond.code Lib.MathLoose.min_long.x Lib.MathLoose.min_long.code 4 (some .long) ∈ hb_TB) ∧
    (sort < 4 ∨ sort = 6 → ∀ M' : ab_MI, ab_gM (hb_Gx O X) y = some M' → (sort ≠ 3 → Cond.methodLink (ab_my M).cls ix (ab_my M') ∈ hb_TB) ∧ Cond.initialized (ab_my M').cls ∈ hb_TB ∧ ((ab_my M').cls ≠ "java/lang/invoke/MethodHandle" ∧ (ab_my M').cls ≠ "java/lang/invoke/VarHandle" ∧ (parseMethodDescriptor (ab_my M').desc).map (fun d => d.parameters.length) = some na) ∧
      (sort = 0 → Cond.instanceMethod (ab_my M') ∈ hb_TB ∧ Cond.selects (ab_my M').cls (ab_my M') (ab_my M') ∈ hb_TB ∧ ∃ q : vw_C, (ab_gK (hb_Gx O X))[ci]? = some q ∧ q.1 = (ab_my M').cls) ∧
      (sort = 1 → Cond.static (ab_my M') ∈ hb_TB) ∧
      (sort = 6 → Cond.instanceMethod (ab_my M') ∈ hb_TB ∧ Cond.selects (ab_my M').cls (ab_my M') (ab_my M') ∈ hb_TB ∧ (ab_my M').cls = "java/lang/String") ∧
      (sort = 2 ∨ sort = 3 → (ab_my M').name = "<init>" ∧ Cond.instanceMethod (ab_my M') ∈ hb_TB ∧ ab_mr M' = none)) := by
  intro ix sort y na ci h M _ hcl
  rw [hcl]
  unfold hb_T12 at h
  split at h
  · cases h
    exact ⟨fun _ => ⟨(hb_w1 51 (by decide +kernel)), ca_obj.1, ca_obj.2⟩, fun h => absurd h (by decide), fun h => absurd h (by decide), fun h => absurd h (by decide), fun h => absurd h (by decide), fun h => absurd h (by decide)⟩
  · cases h
    refine ⟨fun h => absurd h (by decide), fun h => absurd h (by decide), fun h => absurd h (by decide), fun h => absurd h (by decide), fun h => absurd h (by decide), fun _ M' hM' => ?_⟩
    obtain rfl : mX11_init = M' := Option.some.inj ((show ab_gM (hb_Gx O X) 2816 = some mX11_init from rfl).symm.trans hM')
    exact ⟨fun _ => (hb_w1 56 (by decide +kernel)), ca_mX11_init.1, ca_mX11_init.2, fun h => absurd h (by decide), fun h => absurd h (by decide), fun h => absurd h (by decide), fun _ => ⟨rfl, ci_mX11_init, rfl⟩⟩
  · cases h
    refine ⟨fun h => absurd h (by decide), fun h => absurd h (by decide), fun h => absurd h (by decide), fun h => absurd h (by decide), fun h => absurd h (by decide), fun _ M' hM' => ?_⟩
    obtain rfl : mX7_init = M' := Option.some.inj ((show ab_gM (hb_Gx O X) 1792 = some mX7_init from rfl).symm.trans hM')
    exact ⟨fun _ => (hb_w2 220 (by decide +kernel)), ca_mX7_init.1, ca_mX7_init.2, fun h => absurd h (by decide), fun h => absurd h (by decide), fun h => absurd h (by decide), fun _ => ⟨rfl, ci_mX7_init, rfl⟩⟩
  · cases h
    refine ⟨fun h => absurd h (by decide), fun h => absurd h (by decide), fun h => absurd h (by decide), fun h => absurd h (by decide), fun h => absurd h (by decide), fun _ M' hM' => ?_⟩
    obtain rfl : mX6_init = M' := Option.some.inj ((show ab_gM (hb_Gx O X) 1536 = some mX6_init from rfl).symm.trans hM')
    exact ⟨fun _ => (hb_w3 54 (by decide +kernel)), ca_mX6_init.1, ca_mX6_init.2, fun h => absurd h (by decide), fun h => absurd h (by decide), fun h => absurd h (by decide), fun _ => ⟨rfl, ci_mX6_init, rfl⟩⟩
  · cases h
    refine ⟨fun h => absurd h (by decide), fun h => absurd h (by decide), fun h => absurd h (by decide), fun h => absurd h (by decide), fun h => absurd h (by decide), fun _ M' hM' => ?_⟩
    obtain rfl : mX3_init = M' := Option.some.inj ((show ab_gM (hb_Gx O X) 768 = some mX3_init from rfl).symm.trans hM')
    exact ⟨fun _ => (hb_w3 118 (by decide +kernel)), ca_mX3_init.1, ca_mX3_init.2, fun h => absurd h (by decide), fun h => absurd h (by decide), fun h => absurd h (by decide), fun _ => ⟨rfl, ci_mX3_init, rfl⟩⟩
  · cases h
    refine ⟨fun h => absurd h (by decide), fun h => absurd h (by decide), fun h => absurd h (by decide), fun h => absurd h (by decide), fun h => absurd h (by decide), fun _ M' hM' => ?_⟩
    obtain rfl : mX10_init = M' := Option.some.inj ((show ab_gM (hb_Gx O X) 2560 = some mX10_init from rfl).symm.trans hM')
    exact ⟨fun _ => (hb_w3 164 (by decide +kernel)), ca_mX10_init.1, ca_mX10_init.2, fun h => absurd h (by decide), fun h => absurd h (by decide), fun h => absurd h (by decide), fun _ => ⟨rfl, ci_mX10_init, rfl⟩⟩
  · cases h
    refine ⟨fun h => absurd h (by decide), fun h => absurd h (by decide), fun h => absurd h (by decide), fun h => absurd h (by decide), fun h => absurd h (by decide), fun _ M' hM' => ?_⟩
    obtain rfl : mX0_init = M' := Option.some.inj ((show ab_gM (hb_Gx O X) 0 = some mX0_init from rfl).symm.trans hM')
    exact ⟨fun _ => (hb_w3 212 (by decide +kernel)), ca_mX0_init.1, ca_mX0_init.2, fun h => absurd h (by decide), fun h => absurd h (by decide), fun h => absurd h (by decide), fun _ => ⟨rfl, ci_mX0_init, rfl⟩⟩
  · cases h
    refine ⟨fun h => absurd h (by decide), fun h => absurd h (by decide), fun h => absurd h (by decide), fun h => absurd h (by decide), fun h => absurd h (by decide), fun _ M' hM' => ?_⟩
    obtain rfl : mX4_init = M' := Option.some.inj ((show ab_gM (hb_Gx O X) 1024 = some mX4_init from rfl).symm.trans hM')
    exact ⟨fun _ => (hb_w4 31 (by decide +kernel)), ca_mX4_init.1, ca_mX4_init.2, fun h => absurd h (by decide), fun h => absurd h (by decide), fun h => absurd h (by decide), fun _ => ⟨rfl, ci_mX4_init, rfl⟩⟩
  · cases h
    exact ⟨fun h => absurd h (by decide), fun h => absurd h (by decide), fun h => absurd h (by decide), fun _ => ⟨(hb_w6 83 (by decide +kernel)), ca_m8⟩, fun h => absurd h (by decide), fun h => absurd h (by decide)⟩
  · cases h
    refine ⟨fun h => absurd h (by decide), fun h => absurd h (by decide), fun h => absurd h (by decide), fun h => absurd h (by decide), fun h => absurd h (by decide), fun _ M' hM' => ?_⟩
    obtain rfl : mJ7_copyOf_9075b = M' := Option.some.inj ((show ab_gM (hb_Gx O X) 11268 = some mJ7_copyOf_9075b from rfl).symm.trans hM')
    exact ⟨fun _ => (hb_w6 84 (by decide +kernel)), ca_mJ7_copyOf_9075b.1, ca_mJ7_copyOf_9075b.2, fun h => absurd h (by decide), fun _ => ct_mJ7_copyOf_9075b, fun h => absurd h (by decide), fun h => absurd h (by decide)⟩
  · cases h
    refine ⟨fun h => absurd h (by decide), fun h => absurd h (by decide), fun h => absurd h (by decide), fun h => absurd h (by decide), fun h => absurd h (by decide), fun _ M' hM' => ?_⟩
    obtain rfl : mX12_putOnTape = M' := Option.some.inj ((show ab_gM (hb_Gx O X) 3074 = some mX12_putOnTape from rfl).symm.trans hM')
    exact ⟨fun _ => (hb_w6 92 (by decide +kernel)), ca_mX12_putOnTape.1, ca_mX12_putOnTape.2, fun _ => ⟨ci_mX12_putOnTape, cs_mX12_putOnTape, _, rfl, rfl⟩, fun h => absurd h (by decide), fun h => absurd h (by decide), fun h => absurd h (by decide)⟩
  · cases h
    refine ⟨fun h => absurd h (by decide), fun h => absurd h (by decide), fun h => absurd h (by decide), fun h => absurd h (by decide), fun h => absurd h (by decide), fun _ M' hM' => ?_⟩
    obtain rfl : mX7_readText = M' := Option.some.inj ((show ab_gM (hb_Gx O X) 1793 = some mX7_readText from rfl).symm.trans hM')
    exact ⟨fun _ => (hb_w4 149 (by decide +kernel)), ca_mX7_readText.1, ca_mX7_readText.2, fun _ => ⟨ci_mX7_readText, cs_mX7_readText, _, rfl, rfl⟩, fun h => absurd h (by decide), fun h => absurd h (by decide), fun h => absurd h (by decide)⟩
  · cases h
    refine ⟨fun h => absurd h (by decide), fun h => absurd h (by decide), fun h => absurd h (by decide), fun h => absurd h (by decide), fun h => absurd h (by decide), fun _ M' hM' => ?_⟩
    obtain rfl : mX7_readProgram = M' := Option.some.inj ((show ab_gM (hb_Gx O X) 1794 = some mX7_readProgram from rfl).symm.trans hM')
    exact ⟨fun _ => (hb_w5 231 (by decide +kernel)), ca_mX7_readProgram.1, ca_mX7_readProgram.2, fun _ => ⟨ci_mX7_readProgram, cs_mX7_readProgram, _, rfl, rfl⟩, fun h => absurd h (by decide), fun h => absurd h (by decide), fun h => absurd h (by decide)⟩
  · cases h
    refine ⟨fun h => absurd h (by decide), fun h => absurd h (by decide), fun h => absurd h (by decide), fun h => absurd h (by decide), fun h => absurd h (by decide), fun _ M' hM' => ?_⟩
    obtain rfl : mX11_beginAnew = M' := Option.some.inj ((show ab_gM (hb_Gx O X) 2822 = some mX11_beginAnew from rfl).symm.trans hM')
    exact ⟨fun _ => (hb_w5 239 (by decide +kernel)), ca_mX11_beginAnew.1, ca_mX11_beginAnew.2, fun _ => ⟨ci_mX11_beginAnew, cs_mX11_beginAnew, _, rfl, rfl⟩, fun h => absurd h (by decide), fun h => absurd h (by decide), fun h => absurd h (by decide)⟩
  · cases h
    refine ⟨fun h => absurd h (by decide), fun h => absurd h (by decide), fun h => absurd h (by decide), fun h => absurd h (by decide), fun h => absurd h (by decide), fun _ M' hM' => ?_⟩
    obtain rfl : mX6_forgetAll = M' := Option.some.inj ((show ab_gM (hb_Gx O X) 1537 = some mX6_forgetAll from rfl).symm.trans hM')
    exact ⟨fun _ => (hb_w6 3 (by decide +kernel)), ca_mX6_forgetAll.1, ca_mX6_forgetAll.2, fun _ => ⟨ci_mX6_forgetAll, cs_mX6_forgetAll, _, rfl, rfl⟩, fun h => absurd h (by decide), fun h => absurd h (by decide), fun h => absurd h (by decide)⟩
  · cases h
    refine ⟨fun h => absurd h (by decide), fun h => absurd h (by decide), fun h => absurd h (by decide), fun h => absurd h (by decide), fun h => absurd h (by decide), fun _ M' hM' => ?_⟩
    obtain rfl : mX5_isThere = M' := Option.some.inj ((show ab_gM (hb_Gx O X) 1281 = some mX5_isThere from rfl).symm.trans hM')
    exact ⟨fun _ => (hb_w6 126 (by decide +kernel)), ca_mX5_isThere.1, ca_mX5_isThere.2, fun _ => ⟨ci_mX5_isThere, cs_mX5_isThere, _, rfl, rfl⟩, fun h => absurd h (by decide), fun h => absurd h (by decide), fun h => absurd h (by decide)⟩
  · cases h
    refine ⟨fun h => absurd h (by decide), fun h => absurd h (by decide), fun h => absurd h (by decide), fun h => absurd h (by decide), fun h => absurd h (by decide), fun _ M' hM' => ?_⟩
    obtain rfl : mX11_takeStock = M' := Option.some.inj ((show ab_gM (hb_Gx O X) 2825 = some mX11_takeStock from rfl).symm.trans hM')
    exact ⟨fun _ => (hb_w6 127 (by decide +kernel)), ca_mX11_takeStock.1, ca_mX11_takeStock.2, fun _ => ⟨ci_mX11_takeStock, cs_mX11_takeStock, _, rfl, rfl⟩, fun h => absurd h (by decide), fun h => absurd h (by decide), fun h => absurd h (by decide)⟩
  · cases h
    refine ⟨fun h => absurd h (by decide), fun h => absurd h (by decide), fun h => absurd h (by decide), fun h => absurd h (by decide), fun h => absurd h (by decide), fun _ M' hM' => ?_⟩
    obtain rfl : mX11_isKind = M' := Option.some.inj ((show ab_gM (hb_Gx O X) 2817 = some mX11_isKind from rfl).symm.trans hM')
    exact ⟨fun _ => (hb_w6 150 (by decide +kernel)), ca_mX11_isKind.1, ca_mX11_isKind.2, fun _ => ⟨ci_mX11_isKind, cs_mX11_isKind, _, rfl, rfl⟩, fun h => absurd h (by decide), fun h => absurd h (by decide), fun h => absurd h (by decide)⟩
  · cases h
    refine ⟨fun h => absurd h (by decide), fun h => absurd h (by decide), fun h => absurd h (by decide), fun h => absurd h (by decide), fun h => absurd h (by decide), fun _ M' hM' => ?_⟩
    obtain rfl : mX2_isBelow = M' := Option.some.inj ((show ab_gM (hb_Gx O X) 513 = some mX2_isBelow from rfl).symm.trans hM')
    exact ⟨fun _ => (hb_w6 154 (by decide +kernel)), ca_mX2_isBelow.1, ca_mX2_isBelow.2, fun _ => ⟨ci_mX2_isBelow, cs_mX2_isBelow, _, rfl, rfl⟩, fun h => absurd h (by decide), fun h => absurd h (by decide), fun h => absurd h (by decide)⟩
  · cases h
    refine ⟨fun h => absurd h (by decide), fun h => absurd h (by decide), fun h => absurd h (by decide), fun h => absurd h (by decide), fun h => absurd h (by decide), fun _ M' hM' => ?_⟩
    obtain rfl : mX2_inRow = M' := Option.some.inj ((show ab_gM (hb_Gx O X) 514 = some mX2_inRow from rfl).symm.trans hM')
    exact ⟨fun _ => (hb_w6 162 (by decide +kernel)), ca_mX2_inRow.1, ca_mX2_inRow.2, fun _ => ⟨ci_mX2_inRow, cs_mX2_inRow, _, rfl, rfl⟩, fun h => absurd h (by decide), fun h => absurd h (by decide), fun h => absurd h (by decide)⟩
  · cases h
    refine ⟨fun h => absurd h (by decide), fun h => absurd h (by decide), fun h => absurd h (by decide), fun h => absurd h (by decide), fun h => absurd h (by decide), fun _ M' hM' => ?_⟩
    obtain rfl : mX11_fits = M' := Option.some.inj ((show ab_gM (hb_Gx O X) 2829 = some mX11_fits from rfl).symm.trans hM')
    exact ⟨fun _ => (hb_w6 170 (by decide +kernel)), ca_mX11_fits.1, ca_mX11_fits.2, fun _ => ⟨ci_mX11_fits, cs_mX11_fits, _, rfl, rfl⟩, fun h => absurd h (by decide), fun h => absurd h (by decide), fun h => absurd h (by decide)⟩
  · cases h
    refine ⟨fun h => absurd h (by decide), fun h => absurd h (by decide), fun h => absurd h (by decide), fun h => absurd h (by decide), fun h => absurd h (by decide), fun _ M' hM' => ?_⟩
    obtain rfl : mX6_compare = M' := Option.some.inj ((show ab_gM (hb_Gx O X) 1538 = some mX6_compare from rfl).symm.trans hM')
    exact ⟨fun _ => (hb_w6 174 (by decide +kernel)), ca_mX6_compare.1, ca_mX6_compare.2, fun _ => ⟨ci_mX6_compare, cs_mX6_compare, _, rfl, rfl⟩, fun h => absurd h (by decide), fun h => absurd h (by decide), fun h => absurd h (by decide)⟩
  · cases h
    refine ⟨fun h => absurd h (by decide), fun h => absurd h (by decide), fun h => absurd h (by decide), fun h => absurd h (by decide), fun h => absurd h (by decide), fun _ M' hM' => ?_⟩
    obtain rfl : mX11_methodsOf = M' := Option.some.inj ((show ab_gM (hb_Gx O X) 2827 = some mX11_methodsOf from rfl).symm.trans hM')
    exact ⟨fun _ => (hb_w7 7 (by decide +kernel)), ca_mX11_methodsOf.1, ca_mX11_methodsOf.2, fun _ => ⟨ci_mX11_methodsOf, cs_mX11_methodsOf, _, rfl, rfl⟩, fun h => absurd h (by decide), fun h => absurd h (by decide), fun h => absurd h (by decide)⟩
  · cases h
    refine ⟨fun h => absurd h (by decide), fun h => absurd h (by decide), fun h => absurd h (by decide), fun h => absurd h (by decide), fun h => absurd h (by decide), fun _ M' hM' => ?_⟩
    obtain rfl : mX3_countLists = M' := Option.some.inj ((show ab_gM (hb_Gx O X) 769 = some mX3_countLists from rfl).symm.trans hM')
    exact ⟨fun _ => (hb_w7 17 (by decide +kernel)), ca_mX3_countLists.1, ca_mX3_countLists.2, fun _ => ⟨ci_mX3_countLists, cs_mX3_countLists, _, rfl, rfl⟩, fun h => absurd h (by decide), fun h => absurd h (by decide), fun h => absurd h (by decide)⟩
  · cases h
    refine ⟨fun h => absurd h (by decide), fun h => absurd h (by decide), fun h => absurd h (by decide), fun h => absurd h (by decide), fun h => absurd h (by decide), fun _ M' hM' => ?_⟩
    obtain rfl : mX3_countCells = M' := Option.some.inj ((show ab_gM (hb_Gx O X) 770 = some mX3_countCells from rfl).symm.trans hM')
    exact ⟨fun _ => (hb_w7 62 (by decide +kernel)), ca_mX3_countCells.1, ca_mX3_countCells.2, fun _ => ⟨ci_mX3_countCells, cs_mX3_countCells, _, rfl, rfl⟩, fun h => absurd h (by decide), fun h => absurd h (by decide), fun h => absurd h (by decide)⟩
  · cases h
    refine ⟨fun h => absurd h (by decide), fun h => absurd h (by decide), fun h => absurd h (by decide), fun h => absurd h (by decide), fun h => absurd h (by decide), fun _ M' hM' => ?_⟩
    obtain rfl : mX3_countPressed = M' := Option.some.inj ((show ab_gM (hb_Gx O X) 771 = some mX3_countPressed from rfl).symm.trans hM')
    exact ⟨fun _ => (hb_w7 66 (by decide +kernel)), ca_mX3_countPressed.1, ca_mX3_countPressed.2, fun _ => ⟨ci_mX3_countPressed, cs_mX3_countPressed, _, rfl, rfl⟩, fun h => absurd h (by decide), fun h => absurd h (by decide), fun h => absurd h (by decide)⟩
  · cases h
    refine ⟨fun h => absurd h (by decide), fun h => absurd h (by decide), fun h => absurd h (by decide), fun h => absurd h (by decide), fun h => absurd h (by decide), fun _ M' hM' => ?_⟩
    obtain rfl : mX3_countNodes = M' := Option.some.inj ((show ab_gM (hb_Gx O X) 772 = some mX3_countNodes from rfl).symm.trans hM')
    exact ⟨fun _ => (hb_w7 70 (by decide +kernel)), ca_mX3_countNodes.1, ca_mX3_countNodes.2, fun _ => ⟨ci_mX3_countNodes, cs_mX3_countNodes, _, rfl, rfl⟩, fun h => absurd h (by decide), fun h => absurd h (by decide), fun h => absurd h (by decide)⟩
  · cases h
    refine ⟨fun h => absurd h (by decide), fun h => absurd h (by decide), fun h => absurd h (by decide), fun h => absurd h (by decide), fun h => absurd h (by decide), fun _ M' hM' => ?_⟩
    obtain rfl : mX10_judge = M' := Option.some.inj ((show ab_gM (hb_Gx O X) 2561 = some mX10_judge from rfl).symm.trans hM')
    exact ⟨fun _ => (hb_w7 74 (by decide +kernel)), ca_mX10_judge.1, ca_mX10_judge.2, fun _ => ⟨ci_mX10_judge, cs_mX10_judge, _, rfl, rfl⟩, fun h => absurd h (by decide), fun h => absurd h (by decide), fun h => absurd h (by decide)⟩
  · cases h
    refine ⟨fun h => absurd h (by decide), fun h => absurd h (by decide), fun h => absurd h (by decide), fun h => absurd h (by decide), fun h => absurd h (by decide), fun _ M' hM' => ?_⟩
    obtain rfl : mX4_perform = M' := Option.some.inj ((show ab_gM (hb_Gx O X) 1027 = some mX4_perform from rfl).symm.trans hM')
    exact ⟨fun _ => (hb_w7 140 (by decide +kernel)), ca_mX4_perform.1, ca_mX4_perform.2, fun _ => ⟨ci_mX4_perform, cs_mX4_perform, _, rfl, rfl⟩, fun h => absurd h (by decide), fun h => absurd h (by decide), fun h => absurd h (by decide)⟩
  · cases h
    refine ⟨fun h => absurd h (by decide), fun h => absurd h (by decide), fun h => absurd h (by decide), fun h => absurd h (by decide), fun h => absurd h (by decide), fun _ M' hM' => ?_⟩
    obtain rfl : mX4_kindOf = M' := Option.some.inj ((show ab_gM (hb_Gx O X) 1025 = some mX4_kindOf from rfl).symm.trans hM')
    exact ⟨fun _ => (hb_w8 74 (by decide +kernel)), ca_mX4_kindOf.1, ca_mX4_kindOf.2, fun h => absurd h (by decide), fun _ => ct_mX4_kindOf, fun h => absurd h (by decide), fun h => absurd h (by decide)⟩
  · cases h
    exact ⟨fun h => absurd h (by decide), fun _ => ⟨(hb_w8 89 (by decide +kernel)), ca_cpy⟩, fun h => absurd h (by decide), fun h => absurd h (by decide), fun h => absurd h (by decide), fun h => absurd h (by decide)⟩
  · cases h
    refine ⟨fun h => absurd h (by decide), fun h => absurd h (by decide), fun h => absurd h (by decide), fun h => absurd h (by decide), fun h => absurd h (by decide), fun _ M' hM' => ?_⟩
    obtain rfl : mX12_byteOfResult = M' := Option.some.inj ((show ab_gM (hb_Gx O X) 3091 = some mX12_byteOfResult from rfl).symm.trans hM')
    exact ⟨fun _ => (hb_w8 97 (by decide +kernel)), ca_mX12_byteOfResult.1, ca_mX12_byteOfResult.2, fun _ => ⟨ci_mX12_byteOfResult, cs_mX12_byteOfResult, _, rfl, rfl⟩, fun h => absurd h (by decide), fun h => absurd h (by decide), fun h => absurd h (by decide)⟩
  · cases h
theorem hb_T13_ok (O : Nat → Option FieldType) (X : ab_X) : ∀ (ix sort y na ci : Nat), hb_T13 ix = some (sort, y, na, ci) → ∀ M : ab_MI, ab_mo M = 13 → (ab_my M).cls = RX13 →
    (sort = 4 → Cond.methodLink (ab_my M).cls ix objectInit ∈ hb_TB ∧ Cond.instanceMethod objectInit ∈ hb_TB ∧ Cond.code objectInit ⟨#[0xb1]⟩ 1 none ∈ hb_TB) ∧
    (sort = 5 → Cond.methodLink (ab_my M).cls ix arraycopyName ∈ hb_TB ∧ Cond.native arraycopyName ∈ hb_TB ∧ Cond.static arraycopyName ∈ hb_TB ∧ Cond.initialized "java/lang/System" ∈ hb_TB) ∧
    (sort = 7 → Cond.methodLink (ab_my M).cls ix Lib.Math.max.name ∈ hb_TB ∧ Cond.static Lib.Math.max.name ∈ hb_TB ∧ Cond.initialized "java/lang/Math" ∈ hb_TB ∧ Cond.code Lib.Math.max.name Lib.Math.max.code 2 (some .int) ∈ hb_TB) ∧
    (sort = 8 → Cond.methodLink (ab_my M).cls ix Lib.Math.min.name ∈ hb_TB ∧ Cond.static Lib.Math.min.name ∈ hb_TB ∧ Cond.initialized "java/lang/Math" ∈ hb_TB ∧ Cond.code Lib.Math.min.name Lib.Math.min.code 2 (some .int) ∈ hb_TB) ∧
    (sort = 9 → Cond.methodLink (ab_my M).cls ix Lib.MathLoose.min_long.x ∈ hb_TB ∧ Cond.static Lib.MathLoose.min_long.x ∈ hb_TB ∧ Cond.initialized "java/lang/Math" ∈ hb_TB ∧ Cond.code Lib.MathLoose.min_long.x Lib.MathLoose.min_long.code 4 (some .long) ∈ hb_TB) ∧
    (sort < 4 ∨ sort = 6 → ∀ M' : ab_MI, ab_gM (hb_Gx O X) y = some M' → (sort ≠ 3 → Cond.methodLink (ab_my M).cls ix (ab_my M') ∈ hb_TB) ∧ Cond.initialized (ab_my M').cls ∈ hb_TB ∧ ((ab_my M').cls ≠ "java/lang/invoke/MethodHandle" ∧ (ab_my M').cls ≠ "java/lang/invoke/VarHandle" ∧ (parseMethodDescriptor (ab_my M').desc).map (fun d => d.parameters.length) = some na) ∧
      (sort = 0 → Cond.instanceMethod (ab_my M') ∈ hb_TB ∧ Cond.selects (ab_my M').cls (ab_my M') (ab_my M') ∈ hb_TB ∧ ∃ q : vw_C, (ab_gK (hb_Gx O X))[ci]? = some q ∧ q.1 = (ab_my M').cls) ∧
      (sort = 1 → Cond.static (ab_my M') ∈ hb_TB) ∧
      (sort = 6 → Cond.instanceMethod (ab_my M') ∈ hb_TB ∧ Cond.selects (ab_my M').cls (ab_my M') (ab_my M') ∈ hb_TB ∧ (ab_my M').cls = "java/lang/String") ∧
      (sort = 2 ∨ sort = 3 → (ab_my M').name = "<init>" ∧ Cond.instanceMethod (ab_my M') ∈ hb_TB ∧ ab_mr M' = none)) := by
  intro ix sort y na ci h M _ hcl
  rw [hcl]
  unfold hb_T13 at h
  split at h
  · cases h
    exact ⟨fun _ => ⟨(hb_w8 204 (by decide +kernel)), ca_obj.1, ca_obj.2⟩, fun h => absurd h (by decide), fun h => absurd h (by decide), fun h => absurd h (by decide), fun h => absurd h (by decide), fun h => absurd h (by decide)⟩
  · cases h
    refine ⟨fun h => absurd h (by decide), fun h => absurd h (by decide), fun h => absurd h (by decide), fun h => absurd h (by decide), fun h => absurd h (by decide), fun _ M' hM' => ?_⟩
    obtain rfl : mX19_init = M' := Option.some.inj ((show ab_gM (hb_Gx O X) 4864 = some mX19_init from rfl).symm.trans hM')
    exact ⟨fun h => absurd rfl h, ca_mX19_init.1, ca_mX19_init.2, fun h => absurd h (by decide), fun h => absurd h (by decide), fun h => absurd h (by decide), fun _ => ⟨rfl, ci_mX19_init, rfl⟩⟩
  · cases h
theorem hb_T14_ok (O : Nat → Option FieldType) (X : ab_X) : ∀ (ix sort y na ci : Nat), hb_T14 ix = some (sort, y, na, ci) → ∀ M : ab_MI, ab_mo M = 14 → (ab_my M).cls = RX14 →
    (sort = 4 → Cond.methodLink (ab_my M).cls ix objectInit ∈ hb_TB ∧ Cond.instanceMethod objectInit ∈ hb_TB ∧ Cond.code objectInit ⟨#[0xb1]⟩ 1 none ∈ hb_TB) ∧
    (sort = 5 → Cond.methodLink (ab_my M).cls ix arraycopyName ∈ hb_TB ∧ Cond.native arraycopyName ∈ hb_TB ∧ Cond.static arraycopyName ∈ hb_TB ∧ Cond.initialized "java/lang/System" ∈ hb_TB) ∧
    (sort = 7 → Cond.methodLink (ab_my M).cls ix Lib.Math.max.name ∈ hb_TB ∧ Cond.static Lib.Math.max.name ∈ hb_TB ∧ Cond.initialized "java/lang/Math" ∈ hb_TB ∧ Cond.code Lib.Math.max.name Lib.Math.max.code 2 (some .int) ∈ hb_TB) ∧
    (sort = 8 → Cond.methodLink (ab_my M).cls ix Lib.Math.min.name ∈ hb_TB ∧ Cond.static Lib.Math.min.name ∈ hb_TB ∧ Cond.initialized "java/lang/Math" ∈ hb_TB ∧ Cond.code Lib.Math.min.name Lib.Math.min.code 2 (some .int) ∈ hb_TB) ∧
    (sort = 9 → Cond.methodLink (ab_my M).cls ix Lib.MathLoose.min_long.x ∈ hb_TB ∧ Cond.static Lib.MathLoose.min_long.x ∈ hb_TB ∧ Cond.initialized "java/lang/Math" ∈ hb_TB ∧ Cond.code Lib.MathLoose.min_long.x Lib.MathLoose.min_long.code 4 (some .long) ∈ hb_TB) ∧
    (sort < 4 ∨ sort = 6 → ∀ M' : ab_MI, ab_gM (hb_Gx O X) y = some M' → (sort ≠ 3 → Cond.methodLink (ab_my M).cls ix (ab_my M') ∈ hb_TB) ∧ Cond.initialized (ab_my M').cls ∈ hb_TB ∧ ((ab_my M').cls ≠ "java/lang/invoke/MethodHandle" ∧ (ab_my M').cls ≠ "java/lang/invoke/VarHandle" ∧ (parseMethodDescriptor (ab_my M').desc).map (fun d => d.parameters.length) = some na) ∧
      (sort = 0 → Cond.instanceMethod (ab_my M') ∈ hb_TB ∧ Cond.selects (ab_my M').cls (ab_my M') (ab_my M') ∈ hb_TB ∧ ∃ q : vw_C, (ab_gK (hb_Gx O X))[ci]? = some q ∧ q.1 = (ab_my M').cls) ∧
      (sort = 1 → Cond.static (ab_my M') ∈ hb_TB) ∧
      (sort = 6 → Cond.instanceMethod (ab_my M') ∈ hb_TB ∧ Cond.selects (ab_my M').cls (ab_my M') (ab_my M') ∈ hb_TB ∧ (ab_my M').cls = "java/lang/String") ∧
      (sort = 2 ∨ sort = 3 → (ab_my M').name = "<init>" ∧ Cond.instanceMethod (ab_my M') ∈ hb_TB ∧ ab_mr M' = none)) := by
  intro ix sort y na ci h M _ hcl
  rw [hcl]
  unfold hb_T14 at h
  split at h
  · cases h
    exact ⟨fun _ => ⟨(hb_w9 77 (by decide +kernel)), ca_obj.1, ca_obj.2⟩, fun h => absurd h (by decide), fun h => absurd h (by decide), fun h => absurd h (by decide), fun h => absurd h (by decide), fun h => absurd h (by decide)⟩
  · cases h
theorem hb_T15_ok (O : Nat → Option FieldType) (X : ab_X) : ∀ (ix sort y na ci : Nat), hb_T15 ix = some (sort, y, na, ci) → ∀ M : ab_MI, ab_mo M = 15 → (ab_my M).cls = RX15 →
    (sort = 4 → Cond.methodLink (ab_my M).cls ix objectInit ∈ hb_TB ∧ Cond.instanceMethod objectInit ∈ hb_TB ∧ Cond.code objectInit ⟨#[0xb1]⟩ 1 none ∈ hb_TB) ∧
    (sort = 5 → Cond.methodLink (ab_my M).cls ix arraycopyName ∈ hb_TB ∧ Cond.native arraycopyName ∈ hb_TB ∧ Cond.static arraycopyName ∈ hb_TB ∧ Cond.initialized "java/lang/System" ∈ hb_TB) ∧
    (sort = 7 → Cond.methodLink (ab_my M).cls ix Lib.Math.max.name ∈ hb_TB ∧ Cond.static Lib.Math.max.name ∈ hb_TB ∧ Cond.initialized "java/lang/Math" ∈ hb_TB ∧ Cond.code Lib.Math.max.name Lib.Math.max.code 2 (some .int) ∈ hb_TB) ∧
    (sort = 8 → Cond.methodLink (ab_my M).cls ix Lib.Math.min.name ∈ hb_TB ∧ Cond.static Lib.Math.min.name ∈ hb_TB ∧ Cond.initialized "java/lang/Math" ∈ hb_TB ∧ Cond.code Lib.Math.min.name Lib.Math.min.code 2 (some .int) ∈ hb_TB) ∧
    (sort = 9 → Cond.methodLink (ab_my M).cls ix Lib.MathLoose.min_long.x ∈ hb_TB ∧ Cond.static Lib.MathLoose.min_long.x ∈ hb_TB ∧ Cond.initialized "java/lang/Math" ∈ hb_TB ∧ Cond.code Lib.MathLoose.min_long.x Lib.MathLoose.min_long.code 4 (some .long) ∈ hb_TB) ∧
    (sort < 4 ∨ sort = 6 → ∀ M' : ab_MI, ab_gM (hb_Gx O X) y = some M' → (sort ≠ 3 → Cond.methodLink (ab_my M).cls ix (ab_my M') ∈ hb_TB) ∧ Cond.initialized (ab_my M').cls ∈ hb_TB ∧ ((ab_my M').cls ≠ "java/lang/invoke/MethodHandle" ∧ (ab_my M').cls ≠ "java/lang/invoke/VarHandle" ∧ (parseMethodDescriptor (ab_my M').desc).map (fun d => d.parameters.length) = some na) ∧
      (sort = 0 → Cond.instanceMethod (ab_my M') ∈ hb_TB ∧ Cond.selects (ab_my M').cls (ab_my M') (ab_my M') ∈ hb_TB ∧ ∃ q : vw_C, (ab_gK (hb_Gx O X))[ci]? = some q ∧ q.1 = (ab_my M').cls) ∧
      (sort = 1 → Cond.static (ab_my M') ∈ hb_TB) ∧
      (sort = 6 → Cond.instanceMethod (ab_my M') ∈ hb_TB ∧ Cond.selects (ab_my M').cls (ab_my M') (ab_my M') ∈ hb_TB ∧ (ab_my M').cls = "java/lang/String") ∧
      (sort = 2 ∨ sort = 3 → (ab_my M').name = "<init>" ∧ Cond.instanceMethod (ab_my M') ∈ hb_TB ∧ ab_mr M' = none)) := by
  intro ix sort y na ci h M _ hcl
  rw [hcl]
  unfold hb_T15 at h
  split at h
  · cases h
    refine ⟨fun h => absurd h (by decide), fun h => absurd h (by decide), fun h => absurd h (by decide), fun h => absurd h (by decide), fun h => absurd h (by decide), fun _ M' hM' => ?_⟩
    obtain rfl : mZR15_init = M' := Option.some.inj ((show ab_gM (hb_Gx O X) 15360 = some mZR15_init from rfl).symm.trans hM')
    exact ⟨fun _ => (hb_w9 69 (by decide +kernel)), ca_mZR15_init.1, ca_mZR15_init.2, fun h => absurd h (by decide), fun h => absurd h (by decide), fun h => absurd h (by decide), fun _ => ⟨rfl, ci_mZR15_init, rfl⟩⟩
  · cases h
theorem hb_T16_ok (O : Nat → Option FieldType) (X : ab_X) : ∀ (ix sort y na ci : Nat), hb_T16 ix = some (sort, y, na, ci) → ∀ M : ab_MI, ab_mo M = 16 → (ab_my M).cls = RX16 →
    (sort = 4 → Cond.methodLink (ab_my M).cls ix objectInit ∈ hb_TB ∧ Cond.instanceMethod objectInit ∈ hb_TB ∧ Cond.code objectInit ⟨#[0xb1]⟩ 1 none ∈ hb_TB) ∧
    (sort = 5 → Cond.methodLink (ab_my M).cls ix arraycopyName ∈ hb_TB ∧ Cond.native arraycopyName ∈ hb_TB ∧ Cond.static arraycopyName ∈ hb_TB ∧ Cond.initialized "java/lang/System" ∈ hb_TB) ∧
    (sort = 7 → Cond.methodLink (ab_my M).cls ix Lib.Math.max.name ∈ hb_TB ∧ Cond.static Lib.Math.max.name ∈ hb_TB ∧ Cond.initialized "java/lang/Math" ∈ hb_TB ∧ Cond.code Lib.Math.max.name Lib.Math.max.code 2 (some .int) ∈ hb_TB) ∧
    (sort = 8 → Cond.methodLink (ab_my M).cls ix Lib.Math.min.name ∈ hb_TB ∧ Cond.static Lib.Math.min.name ∈ hb_TB ∧ Cond.initialized "java/lang/Math" ∈ hb_TB ∧ Cond.code Lib.Math.min.name Lib.Math.min.code 2 (some .int) ∈ hb_TB) ∧
    (sort = 9 → Cond.methodLink (ab_my M).cls ix Lib.MathLoose.min_long.x ∈ hb_TB ∧ Cond.static Lib.MathLoose.min_long.x ∈ hb_TB ∧ Cond.initialized "java/lang/Math" ∈ hb_TB ∧ Cond.code Lib.MathLoose.min_long.x Lib.MathLoose.min_long.code 4 (some .long) ∈ hb_TB) ∧
    (sort < 4 ∨ sort = 6 → ∀ M' : ab_MI, ab_gM (hb_Gx O X) y = some M' → (sort ≠ 3 → Cond.methodLink (ab_my M).cls ix (ab_my M') ∈ hb_TB) ∧ Cond.initialized (ab_my M').cls ∈ hb_TB ∧ ((ab_my M').cls ≠ "java/lang/invoke/MethodHandle" ∧ (ab_my M').cls ≠ "java/lang/invoke/VarHandle" ∧ (parseMethodDescriptor (ab_my M').desc).map (fun d => d.parameters.length) = some na) ∧
      (sort = 0 → Cond.instanceMethod (ab_my M') ∈ hb_TB ∧ Cond.selects (ab_my M').cls (ab_my M') (ab_my M') ∈ hb_TB ∧ ∃ q : vw_C, (ab_gK (hb_Gx O X))[ci]? = some q ∧ q.1 = (ab_my M').cls) ∧
      (sort = 1 → Cond.static (ab_my M') ∈ hb_TB) ∧
      (sort = 6 → Cond.instanceMethod (ab_my M') ∈ hb_TB ∧ Cond.selects (ab_my M').cls (ab_my M') (ab_my M') ∈ hb_TB ∧ (ab_my M').cls = "java/lang/String") ∧
      (sort = 2 ∨ sort = 3 → (ab_my M').name = "<init>" ∧ Cond.instanceMethod (ab_my M') ∈ hb_TB ∧ ab_mr M' = none)) := by
  intro ix sort y na ci h M _ hcl
  rw [hcl]
  unfold hb_T16 at h
  split at h
  · cases h
    refine ⟨fun h => absurd h (by decide), fun h => absurd h (by decide), fun h => absurd h (by decide), fun h => absurd h (by decide), fun h => absurd h (by decide), fun _ M' hM' => ?_⟩
    obtain rfl : mZR16_init = M' := Option.some.inj ((show ab_gM (hb_Gx O X) 16128 = some mZR16_init from rfl).symm.trans hM')
    exact ⟨fun _ => (hb_w9 46 (by decide +kernel)), ca_mZR16_init.1, ca_mZR16_init.2, fun h => absurd h (by decide), fun h => absurd h (by decide), fun h => absurd h (by decide), fun _ => ⟨rfl, ci_mZR16_init, rfl⟩⟩
  · cases h
theorem hb_T17_ok (O : Nat → Option FieldType) (X : ab_X) : ∀ (ix sort y na ci : Nat), hb_T17 ix = some (sort, y, na, ci) → ∀ M : ab_MI, ab_mo M = 17 → (ab_my M).cls = RX17 →
    (sort = 4 → Cond.methodLink (ab_my M).cls ix objectInit ∈ hb_TB ∧ Cond.instanceMethod objectInit ∈ hb_TB ∧ Cond.code objectInit ⟨#[0xb1]⟩ 1 none ∈ hb_TB) ∧
    (sort = 5 → Cond.methodLink (ab_my M).cls ix arraycopyName ∈ hb_TB ∧ Cond.native arraycopyName ∈ hb_TB ∧ Cond.static arraycopyName ∈ hb_TB ∧ Cond.initialized "java/lang/System" ∈ hb_TB) ∧
    (sort = 7 → Cond.methodLink (ab_my M).cls ix Lib.Math.max.name ∈ hb_TB ∧ Cond.static Lib.Math.max.name ∈ hb_TB ∧ Cond.initialized "java/lang/Math" ∈ hb_TB ∧ Cond.code Lib.Math.max.name Lib.Math.max.code 2 (some .int) ∈ hb_TB) ∧
    (sort = 8 → Cond.methodLink (ab_my M).cls ix Lib.Math.min.name ∈ hb_TB ∧ Cond.static Lib.Math.min.name ∈ hb_TB ∧ Cond.initialized "java/lang/Math" ∈ hb_TB ∧ Cond.code Lib.Math.min.name Lib.Math.min.code 2 (some .int) ∈ hb_TB) ∧
    (sort = 9 → Cond.methodLink (ab_my M).cls ix Lib.MathLoose.min_long.x ∈ hb_TB ∧ Cond.static Lib.MathLoose.min_long.x ∈ hb_TB ∧ Cond.initialized "java/lang/Math" ∈ hb_TB ∧ Cond.code Lib.MathLoose.min_long.x Lib.MathLoose.min_long.code 4 (some .long) ∈ hb_TB) ∧
    (sort < 4 ∨ sort = 6 → ∀ M' : ab_MI, ab_gM (hb_Gx O X) y = some M' → (sort ≠ 3 → Cond.methodLink (ab_my M).cls ix (ab_my M') ∈ hb_TB) ∧ Cond.initialized (ab_my M').cls ∈ hb_TB ∧ ((ab_my M').cls ≠ "java/lang/invoke/MethodHandle" ∧ (ab_my M').cls ≠ "java/lang/invoke/VarHandle" ∧ (parseMethodDescriptor (ab_my M').desc).map (fun d => d.parameters.length) = some na) ∧
      (sort = 0 → Cond.instanceMethod (ab_my M') ∈ hb_TB ∧ Cond.selects (ab_my M').cls (ab_my M') (ab_my M') ∈ hb_TB ∧ ∃ q : vw_C, (ab_gK (hb_Gx O X))[ci]? = some q ∧ q.1 = (ab_my M').cls) ∧
      (sort = 1 → Cond.static (ab_my M') ∈ hb_TB) ∧
      (sort = 6 → Cond.instanceMethod (ab_my M') ∈ hb_TB ∧ Cond.selects (ab_my M').cls (ab_my M') (ab_my M') ∈ hb_TB ∧ (ab_my M').cls = "java/lang/String") ∧
      (sort = 2 ∨ sort = 3 → (ab_my M').name = "<init>" ∧ Cond.instanceMethod (ab_my M') ∈ hb_TB ∧ ab_mr M' = none)) := by
  intro ix sort y na ci h M _ hcl
  rw [hcl]
  unfold hb_T17 at h
  split at h
  · cases h
    exact ⟨fun _ => ⟨(hb_w8 162 (by decide +kernel)), ca_obj.1, ca_obj.2⟩, fun h => absurd h (by decide), fun h => absurd h (by decide), fun h => absurd h (by decide), fun h => absurd h (by decide), fun h => absurd h (by decide)⟩
  · cases h
    refine ⟨fun h => absurd h (by decide), fun h => absurd h (by decide), fun h => absurd h (by decide), fun h => absurd h (by decide), fun h => absurd h (by decide), fun _ M' hM' => ?_⟩
    obtain rfl : mX19_init = M' := Option.some.inj ((show ab_gM (hb_Gx O X) 4864 = some mX19_init from rfl).symm.trans hM')
    exact ⟨fun h => absurd rfl h, ca_mX19_init.1, ca_mX19_init.2, fun h => absurd h (by decide), fun h => absurd h (by decide), fun h => absurd h (by decide), fun _ => ⟨rfl, ci_mX19_init, rfl⟩⟩
  · cases h
theorem hb_T18_ok (O : Nat → Option FieldType) (X : ab_X) : ∀ (ix sort y na ci : Nat), hb_T18 ix = some (sort, y, na, ci) → ∀ M : ab_MI, ab_mo M = 18 → (ab_my M).cls = RX18 →
    (sort = 4 → Cond.methodLink (ab_my M).cls ix objectInit ∈ hb_TB ∧ Cond.instanceMethod objectInit ∈ hb_TB ∧ Cond.code objectInit ⟨#[0xb1]⟩ 1 none ∈ hb_TB) ∧
    (sort = 5 → Cond.methodLink (ab_my M).cls ix arraycopyName ∈ hb_TB ∧ Cond.native arraycopyName ∈ hb_TB ∧ Cond.static arraycopyName ∈ hb_TB ∧ Cond.initialized "java/lang/System" ∈ hb_TB) ∧
    (sort = 7 → Cond.methodLink (ab_my M).cls ix Lib.Math.max.name ∈ hb_TB ∧ Cond.static Lib.Math.max.name ∈ hb_TB ∧ Cond.initialized "java/lang/Math" ∈ hb_TB ∧ Cond.code Lib.Math.max.name Lib.Math.max.code 2 (some .int) ∈ hb_TB) ∧
    (sort = 8 → Cond.methodLink (ab_my M).cls ix Lib.Math.min.name ∈ hb_TB ∧ Cond.static Lib.Math.min.name ∈ hb_TB ∧ Cond.initialized "java/lang/Math" ∈ hb_TB ∧ Cond.code Lib.Math.min.name Lib.Math.min.code 2 (some .int) ∈ hb_TB) ∧
    (sort = 9 → Cond.methodLink (ab_my M).cls ix Lib.MathLoose.min_long.x ∈ hb_TB ∧ Cond.static Lib.MathLoose.min_long.x ∈ hb_TB ∧ Cond.initialized "java/lang/Math" ∈ hb_TB ∧ Cond.code Lib.MathLoose.min_long.x Lib.MathLoose.min_long.code 4 (some .long) ∈ hb_TB) ∧
    (sort < 4 ∨ sort = 6 → ∀ M' : ab_MI, ab_gM (hb_Gx O X) y = some M' → (sort ≠ 3 → Cond.methodLink (ab_my M).cls ix (ab_my M') ∈ hb_TB) ∧ Cond.initialized (ab_my M').cls ∈ hb_TB ∧ ((ab_my M').cls ≠ "java/lang/invoke/MethodHandle" ∧ (ab_my M').cls ≠ "java/lang/invoke/VarHandle" ∧ (parseMethodDescriptor (ab_my M').desc).map (fun d => d.parameters.length) = some na) ∧
      (sort = 0 → Cond.instanceMethod (ab_my M') ∈ hb_TB ∧ Cond.selects (ab_my M').cls (ab_my M') (ab_my M') ∈ hb_TB ∧ ∃ q : vw_C, (ab_gK (hb_Gx O X))[ci]? = some q ∧ q.1 = (ab_my M').cls) ∧
      (sort = 1 → Cond.static (ab_my M') ∈ hb_TB) ∧
      (sort = 6 → Cond.instanceMethod (ab_my M') ∈ hb_TB ∧ Cond.selects (ab_my M').cls (ab_my M') (ab_my M') ∈ hb_TB ∧ (ab_my M').cls = "java/lang/String") ∧
      (sort = 2 ∨ sort = 3 → (ab_my M').name = "<init>" ∧ Cond.instanceMethod (ab_my M') ∈ hb_TB ∧ ab_mr M' = none)) := by
  intro ix sort y na ci h M _ hcl
  rw [hcl]
  unfold hb_T18 at h
  split at h
  · cases h
    exact ⟨fun _ => ⟨(hb_w8 225 (by decide +kernel)), ca_obj.1, ca_obj.2⟩, fun h => absurd h (by decide), fun h => absurd h (by decide), fun h => absurd h (by decide), fun h => absurd h (by decide), fun h => absurd h (by decide)⟩
  · cases h
theorem hb_T19_ok (O : Nat → Option FieldType) (X : ab_X) : ∀ (ix sort y na ci : Nat), hb_T19 ix = some (sort, y, na, ci) → ∀ M : ab_MI, ab_mo M = 19 → (ab_my M).cls = RX19 →
    (sort = 4 → Cond.methodLink (ab_my M).cls ix objectInit ∈ hb_TB ∧ Cond.instanceMethod objectInit ∈ hb_TB ∧ Cond.code objectInit ⟨#[0xb1]⟩ 1 none ∈ hb_TB) ∧
    (sort = 5 → Cond.methodLink (ab_my M).cls ix arraycopyName ∈ hb_TB ∧ Cond.native arraycopyName ∈ hb_TB ∧ Cond.static arraycopyName ∈ hb_TB ∧ Cond.initialized "java/lang/System" ∈ hb_TB) ∧
    (sort = 7 → Cond.methodLink (ab_my M).cls ix Lib.Math.max.name ∈ hb_TB ∧ Cond.static Lib.Math.max.name ∈ hb_TB ∧ Cond.initialized "java/lang/Math" ∈ hb_TB ∧ Cond.code Lib.Math.max.name Lib.Math.max.code 2 (some .int) ∈ hb_TB) ∧
    (sort = 8 → Cond.methodLink (ab_my M).cls ix Lib.Math.min.name ∈ hb_TB ∧ Cond.static Lib.Math.min.name ∈ hb_TB ∧ Cond.initialized "java/lang/Math" ∈ hb_TB ∧ Cond.code Lib.Math.min.name Lib.Math.min.code 2 (some .int) ∈ hb_TB) ∧
    (sort = 9 → Cond.methodLink (ab_my M).cls ix Lib.MathLoose.min_long.x ∈ hb_TB ∧ Cond.static Lib.MathLoose.min_long.x ∈ hb_TB ∧ Cond.initialized "java/lang/Math" ∈ hb_TB ∧ Cond.code Lib.MathLoose.min_long.x Lib.MathLoose.min_long.code 4 (some .long) ∈ hb_TB) ∧
    (sort < 4 ∨ sort = 6 → ∀ M' : ab_MI, ab_gM (hb_Gx O X) y = some M' → (sort ≠ 3 → Cond.methodLink (ab_my M).cls ix (ab_my M') ∈ hb_TB) ∧ Cond.initialized (ab_my M').cls ∈ hb_TB ∧ ((ab_my M').cls ≠ "java/lang/invoke/MethodHandle" ∧ (ab_my M').cls ≠ "java/lang/invoke/VarHandle" ∧ (parseMethodDescriptor (ab_my M').desc).map (fun d => d.parameters.length) = some na) ∧
      (sort = 0 → Cond.instanceMethod (ab_my M') ∈ hb_TB ∧ Cond.selects (ab_my M').cls (ab_my M') (ab_my M') ∈ hb_TB ∧ ∃ q : vw_C, (ab_gK (hb_Gx O X))[ci]? = some q ∧ q.1 = (ab_my M').cls) ∧
      (sort = 1 → Cond.static (ab_my M') ∈ hb_TB) ∧
      (sort = 6 → Cond.instanceMethod (ab_my M') ∈ hb_TB ∧ Cond.selects (ab_my M').cls (ab_my M') (ab_my M') ∈ hb_TB ∧ (ab_my M').cls = "java/lang/String") ∧
      (sort = 2 ∨ sort = 3 → (ab_my M').name = "<init>" ∧ Cond.instanceMethod (ab_my M') ∈ hb_TB ∧ ab_mr M' = none)) := by
  intro ix sort y na ci h M _ hcl
  rw [hcl]
  unfold hb_T19 at h
  split at h
  · cases h
    exact ⟨fun _ => ⟨(hb_w8 168 (by decide +kernel)), ca_obj.1, ca_obj.2⟩, fun h => absurd h (by decide), fun h => absurd h (by decide), fun h => absurd h (by decide), fun h => absurd h (by decide), fun h => absurd h (by decide)⟩
  · cases h
    refine ⟨fun h => absurd h (by decide), fun h => absurd h (by decide), fun h => absurd h (by decide), fun h => absurd h (by decide), fun h => absurd h (by decide), fun _ M' hM' => ?_⟩
    obtain rfl : mJ0_length_8abf5 = M' := Option.some.inj ((show ab_gM (hb_Gx O X) 9472 = some mJ0_length_8abf5 from rfl).symm.trans hM')
    exact ⟨fun _ => (hb_w9 108 (by decide +kernel)), ca_mJ0_length_8abf5.1, ca_mJ0_length_8abf5.2, fun h => absurd h (by decide), fun h => absurd h (by decide), fun _ => ⟨ci_mJ0_length_8abf5, cs_mJ0_length_8abf5, rfl⟩, fun h => absurd h (by decide)⟩
  · cases h
    refine ⟨fun h => absurd h (by decide), fun h => absurd h (by decide), fun h => absurd h (by decide), fun h => absurd h (by decide), fun h => absurd h (by decide), fun _ M' hM' => ?_⟩
    obtain rfl : mJ0_charAt_5068e = M' := Option.some.inj ((show ab_gM (hb_Gx O X) 9473 = some mJ0_charAt_5068e from rfl).symm.trans hM')
    exact ⟨fun _ => (hb_w9 109 (by decide +kernel)), ca_mJ0_charAt_5068e.1, ca_mJ0_charAt_5068e.2, fun h => absurd h (by decide), fun h => absurd h (by decide), fun _ => ⟨ci_mJ0_charAt_5068e, cs_mJ0_charAt_5068e, rfl⟩, fun h => absurd h (by decide)⟩
  · cases h
theorem hb_T20_ok (O : Nat → Option FieldType) (X : ab_X) : ∀ (ix sort y na ci : Nat), hb_T20 ix = some (sort, y, na, ci) → ∀ M : ab_MI, ab_mo M = 20 → (ab_my M).cls = RX20 →
    (sort = 4 → Cond.methodLink (ab_my M).cls ix objectInit ∈ hb_TB ∧ Cond.instanceMethod objectInit ∈ hb_TB ∧ Cond.code objectInit ⟨#[0xb1]⟩ 1 none ∈ hb_TB) ∧
    (sort = 5 → Cond.methodLink (ab_my M).cls ix arraycopyName ∈ hb_TB ∧ Cond.native arraycopyName ∈ hb_TB ∧ Cond.static arraycopyName ∈ hb_TB ∧ Cond.initialized "java/lang/System" ∈ hb_TB) ∧
    (sort = 7 → Cond.methodLink (ab_my M).cls ix Lib.Math.max.name ∈ hb_TB ∧ Cond.static Lib.Math.max.name ∈ hb_TB ∧ Cond.initialized "java/lang/Math" ∈ hb_TB ∧ Cond.code Lib.Math.max.name Lib.Math.max.code 2 (some .int) ∈ hb_TB) ∧
    (sort = 8 → Cond.methodLink (ab_my M).cls ix Lib.Math.min.name ∈ hb_TB ∧ Cond.static Lib.Math.min.name ∈ hb_TB ∧ Cond.initialized "java/lang/Math" ∈ hb_TB ∧ Cond.code Lib.Math.min.name Lib.Math.min.code 2 (some .int) ∈ hb_TB) ∧
    (sort = 9 → Cond.methodLink (ab_my M).cls ix Lib.MathLoose.min_long.x ∈ hb_TB ∧ Cond.static Lib.MathLoose.min_long.x ∈ hb_TB ∧ Cond.initialized "java/lang/Math" ∈ hb_TB ∧ Cond.code Lib.MathLoose.min_long.x Lib.MathLoose.min_long.code 4 (some .long) ∈ hb_TB) ∧
    (sort < 4 ∨ sort = 6 → ∀ M' : ab_MI, ab_gM (hb_Gx O X) y = some M' → (sort ≠ 3 → Cond.methodLink (ab_my M).cls ix (ab_my M') ∈ hb_TB) ∧ Cond.initialized (ab_my M').cls ∈ hb_TB ∧ ((ab_my M').cls ≠ "java/lang/invoke/MethodHandle" ∧ (ab_my M').cls ≠ "java/lang/invoke/VarHandle" ∧ (parseMethodDescriptor (ab_my M').desc).map (fun d => d.parameters.length) = some na) ∧
      (sort = 0 → Cond.instanceMethod (ab_my M') ∈ hb_TB ∧ Cond.selects (ab_my M').cls (ab_my M') (ab_my M') ∈ hb_TB ∧ ∃ q : vw_C, (ab_gK (hb_Gx O X))[ci]? = some q ∧ q.1 = (ab_my M').cls) ∧
      (sort = 1 → Cond.static (ab_my M') ∈ hb_TB) ∧
      (sort = 6 → Cond.instanceMethod (ab_my M') ∈ hb_TB ∧ Cond.selects (ab_my M').cls (ab_my M') (ab_my M') ∈ hb_TB ∧ (ab_my M').cls = "java/lang/String") ∧
      (sort = 2 ∨ sort = 3 → (ab_my M').name = "<init>" ∧ Cond.instanceMethod (ab_my M') ∈ hb_TB ∧ ab_mr M' = none)) := by
  intro ix sort y na ci h M _ hcl
  rw [hcl]
  unfold hb_T20 at h
  split at h
  · cases h
    exact ⟨fun _ => ⟨(hb_w11 238 (by decide +kernel)), ca_obj.1, ca_obj.2⟩, fun h => absurd h (by decide), fun h => absurd h (by decide), fun h => absurd h (by decide), fun h => absurd h (by decide), fun h => absurd h (by decide)⟩
  · cases h
theorem hb_T21_ok (O : Nat → Option FieldType) (X : ab_X) : ∀ (ix sort y na ci : Nat), hb_T21 ix = some (sort, y, na, ci) → ∀ M : ab_MI, ab_mo M = 21 → (ab_my M).cls = RX21 →
    (sort = 4 → Cond.methodLink (ab_my M).cls ix objectInit ∈ hb_TB ∧ Cond.instanceMethod objectInit ∈ hb_TB ∧ Cond.code objectInit ⟨#[0xb1]⟩ 1 none ∈ hb_TB) ∧
    (sort = 5 → Cond.methodLink (ab_my M).cls ix arraycopyName ∈ hb_TB ∧ Cond.native arraycopyName ∈ hb_TB ∧ Cond.static arraycopyName ∈ hb_TB ∧ Cond.initialized "java/lang/System" ∈ hb_TB) ∧
    (sort = 7 → Cond.methodLink (ab_my M).cls ix Lib.Math.max.name ∈ hb_TB ∧ Cond.static Lib.Math.max.name ∈ hb_TB ∧ Cond.initialized "java/lang/Math" ∈ hb_TB ∧ Cond.code Lib.Math.max.name Lib.Math.max.code 2 (some .int) ∈ hb_TB) ∧
    (sort = 8 → Cond.methodLink (ab_my M).cls ix Lib.Math.min.name ∈ hb_TB ∧ Cond.static Lib.Math.min.name ∈ hb_TB ∧ Cond.initialized "java/lang/Math" ∈ hb_TB ∧ Cond.code Lib.Math.min.name Lib.Math.min.code 2 (some .int) ∈ hb_TB) ∧
    (sort = 9 → Cond.methodLink (ab_my M).cls ix Lib.MathLoose.min_long.x ∈ hb_TB ∧ Cond.static Lib.MathLoose.min_long.x ∈ hb_TB ∧ Cond.initialized "java/lang/Math" ∈ hb_TB ∧ Cond.code Lib.MathLoose.min_long.x Lib.MathLoose.min_long.code 4 (some .long) ∈ hb_TB) ∧
    (sort < 4 ∨ sort = 6 → ∀ M' : ab_MI, ab_gM (hb_Gx O X) y = some M' → (sort ≠ 3 → Cond.methodLink (ab_my M).cls ix (ab_my M') ∈ hb_TB) ∧ Cond.initialized (ab_my M').cls ∈ hb_TB ∧ ((ab_my M').cls ≠ "java/lang/invoke/MethodHandle" ∧ (ab_my M').cls ≠ "java/lang/invoke/VarHandle" ∧ (parseMethodDescriptor (ab_my M').desc).map (fun d => d.parameters.length) = some na) ∧
      (sort = 0 → Cond.instanceMethod (ab_my M') ∈ hb_TB ∧ Cond.selects (ab_my M').cls (ab_my M') (ab_my M') ∈ hb_TB ∧ ∃ q : vw_C, (ab_gK (hb_Gx O X))[ci]? = some q ∧ q.1 = (ab_my M').cls) ∧
      (sort = 1 → Cond.static (ab_my M') ∈ hb_TB) ∧
      (sort = 6 → Cond.instanceMethod (ab_my M') ∈ hb_TB ∧ Cond.selects (ab_my M').cls (ab_my M') (ab_my M') ∈ hb_TB ∧ (ab_my M').cls = "java/lang/String") ∧
      (sort = 2 ∨ sort = 3 → (ab_my M').name = "<init>" ∧ Cond.instanceMethod (ab_my M') ∈ hb_TB ∧ ab_mr M' = none)) := by
  intro ix sort y na ci h M _ hcl
  rw [hcl]
  unfold hb_T21 at h
  split at h
  · cases h
    exact ⟨fun _ => ⟨(hb_w8 120 (by decide +kernel)), ca_obj.1, ca_obj.2⟩, fun h => absurd h (by decide), fun h => absurd h (by decide), fun h => absurd h (by decide), fun h => absurd h (by decide), fun h => absurd h (by decide)⟩
  · cases h
    refine ⟨fun h => absurd h (by decide), fun h => absurd h (by decide), fun h => absurd h (by decide), fun h => absurd h (by decide), fun h => absurd h (by decide), fun _ M' hM' => ?_⟩
    obtain rfl : mJx4a65c_init_da8c8 = M' := Option.some.inj ((show ab_gM (hb_Gx O X) 11008 = some mJx4a65c_init_da8c8 from rfl).symm.trans hM')
    exact ⟨fun _ => (hb_w8 123 (by decide +kernel)), ca_mJx4a65c_init_da8c8.1, ca_mJx4a65c_init_da8c8.2, fun h => absurd h (by decide), fun h => absurd h (by decide), fun h => absurd h (by decide), fun _ => ⟨rfl, ci_mJx4a65c_init_da8c8, rfl⟩⟩
  · cases h
    refine ⟨fun h => absurd h (by decide), fun h => absurd h (by decide), fun h => absurd h (by decide), fun h => absurd h (by decide), fun h => absurd h (by decide), fun _ M' hM' => ?_⟩
    obtain rfl : mJx4a65c_size_8abf5 = M' := Option.some.inj ((show ab_gM (hb_Gx O X) 11011 = some mJx4a65c_size_8abf5 from rfl).symm.trans hM')
    exact ⟨fun _ => (hb_w11 229 (by decide +kernel)), ca_mJx4a65c_size_8abf5.1, ca_mJx4a65c_size_8abf5.2, fun _ => ⟨ci_mJx4a65c_size_8abf5, cs_mJx4a65c_size_8abf5, _, rfl, rfl⟩, fun h => absurd h (by decide), fun h => absurd h (by decide), fun h => absurd h (by decide)⟩
  · cases h
    refine ⟨fun h => absurd h (by decide), fun h => absurd h (by decide), fun h => absurd h (by decide), fun h => absurd h (by decide), fun h => absurd h (by decide), fun _ M' hM' => ?_⟩
    obtain rfl : mX20_init = M' := Option.some.inj ((show ab_gM (hb_Gx O X) 5120 = some mX20_init from rfl).symm.trans hM')
    exact ⟨fun h => absurd rfl h, ca_mX20_init.1, ca_mX20_init.2, fun h => absurd h (by decide), fun h => absurd h (by decide), fun h => absurd h (by decide), fun _ => ⟨rfl, ci_mX20_init, rfl⟩⟩
  · cases h
    refine ⟨fun h => absurd h (by decide), fun h => absurd h (by decide), fun h => absurd h (by decide), fun h => absurd h (by decide), fun h => absurd h (by decide), fun _ M' hM' => ?_⟩
    obtain rfl : mJx4a65c_add_9ea2d = M' := Option.some.inj ((show ab_gM (hb_Gx O X) 11015 = some mJx4a65c_add_9ea2d from rfl).symm.trans hM')
    exact ⟨fun _ => (hb_w12 48 (by decide +kernel)), ca_mJx4a65c_add_9ea2d.1, ca_mJx4a65c_add_9ea2d.2, fun _ => ⟨ci_mJx4a65c_add_9ea2d, cs_mJx4a65c_add_9ea2d, _, rfl, rfl⟩, fun h => absurd h (by decide), fun h => absurd h (by decide), fun h => absurd h (by decide)⟩
  · cases h
    refine ⟨fun h => absurd h (by decide), fun h => absurd h (by decide), fun h => absurd h (by decide), fun h => absurd h (by decide), fun h => absurd h (by decide), fun _ M' hM' => ?_⟩
    obtain rfl : mJx4a65c_get_915e3 = M' := Option.some.inj ((show ab_gM (hb_Gx O X) 11013 = some mJx4a65c_get_915e3 from rfl).symm.trans hM')
    exact ⟨fun _ => (hb_w12 115 (by decide +kernel)), ca_mJx4a65c_get_915e3.1, ca_mJx4a65c_get_915e3.2, fun _ => ⟨ci_mJx4a65c_get_915e3, cs_mJx4a65c_get_915e3, _, rfl, rfl⟩, fun h => absurd h (by decide), fun h => absurd h (by decide), fun h => absurd h (by decide)⟩
  · cases h
    refine ⟨fun h => absurd h (by decide), fun h => absurd h (by decide), fun h => absurd h (by decide), fun h => absurd h (by decide), fun h => absurd h (by decide), fun _ M' hM' => ?_⟩
    obtain rfl : mX20_be = M' := Option.some.inj ((show ab_gM (hb_Gx O X) 5121 = some mX20_be from rfl).symm.trans hM')
    exact ⟨fun _ => (hb_w12 127 (by decide +kernel)), ca_mX20_be.1, ca_mX20_be.2, fun _ => ⟨ci_mX20_be, cs_mX20_be, _, rfl, rfl⟩, fun h => absurd h (by decide), fun h => absurd h (by decide), fun h => absurd h (by decide)⟩
  · cases h
theorem hb_T22_ok (O : Nat → Option FieldType) (X : ab_X) : ∀ (ix sort y na ci : Nat), hb_T22 ix = some (sort, y, na, ci) → ∀ M : ab_MI, ab_mo M = 22 → (ab_my M).cls = RX22 →
    (sort = 4 → Cond.methodLink (ab_my M).cls ix objectInit ∈ hb_TB ∧ Cond.instanceMethod objectInit ∈ hb_TB ∧ Cond.code objectInit ⟨#[0xb1]⟩ 1 none ∈ hb_TB) ∧
    (sort = 5 → Cond.methodLink (ab_my M).cls ix arraycopyName ∈ hb_TB ∧ Cond.native arraycopyName ∈ hb_TB ∧ Cond.static arraycopyName ∈ hb_TB ∧ Cond.initialized "java/lang/System" ∈ hb_TB) ∧
    (sort = 7 → Cond.methodLink (ab_my M).cls ix Lib.Math.max.name ∈ hb_TB ∧ Cond.static Lib.Math.max.name ∈ hb_TB ∧ Cond.initialized "java/lang/Math" ∈ hb_TB ∧ Cond.code Lib.Math.max.name Lib.Math.max.code 2 (some .int) ∈ hb_TB) ∧
    (sort = 8 → Cond.methodLink (ab_my M).cls ix Lib.Math.min.name ∈ hb_TB ∧ Cond.static Lib.Math.min.name ∈ hb_TB ∧ Cond.initialized "java/lang/Math" ∈ hb_TB ∧ Cond.code Lib.Math.min.name Lib.Math.min.code 2 (some .int) ∈ hb_TB) ∧
    (sort = 9 → Cond.methodLink (ab_my M).cls ix Lib.MathLoose.min_long.x ∈ hb_TB ∧ Cond.static Lib.MathLoose.min_long.x ∈ hb_TB ∧ Cond.initialized "java/lang/Math" ∈ hb_TB ∧ Cond.code Lib.MathLoose.min_long.x Lib.MathLoose.min_long.code 4 (some .long) ∈ hb_TB) ∧
    (sort < 4 ∨ sort = 6 → ∀ M' : ab_MI, ab_gM (hb_Gx O X) y = some M' → (sort ≠ 3 → Cond.methodLink (ab_my M).cls ix (ab_my M') ∈ hb_TB) ∧ Cond.initialized (ab_my M').cls ∈ hb_TB ∧ ((ab_my M').cls ≠ "java/lang/invoke/MethodHandle" ∧ (ab_my M').cls ≠ "java/lang/invoke/VarHandle" ∧ (parseMethodDescriptor (ab_my M').desc).map (fun d => d.parameters.length) = some na) ∧
      (sort = 0 → Cond.instanceMethod (ab_my M') ∈ hb_TB ∧ Cond.selects (ab_my M').cls (ab_my M') (ab_my M') ∈ hb_TB ∧ ∃ q : vw_C, (ab_gK (hb_Gx O X))[ci]? = some q ∧ q.1 = (ab_my M').cls) ∧
      (sort = 1 → Cond.static (ab_my M') ∈ hb_TB) ∧
      (sort = 6 → Cond.instanceMethod (ab_my M') ∈ hb_TB ∧ Cond.selects (ab_my M').cls (ab_my M') (ab_my M') ∈ hb_TB ∧ (ab_my M').cls = "java/lang/String") ∧
      (sort = 2 ∨ sort = 3 → (ab_my M').name = "<init>" ∧ Cond.instanceMethod (ab_my M') ∈ hb_TB ∧ ab_mr M' = none)) := by
  intro ix sort y na ci h M _ hcl
  rw [hcl]
  unfold hb_T22 at h
  split at h
  · cases h
    refine ⟨fun h => absurd h (by decide), fun h => absurd h (by decide), fun h => absurd h (by decide), fun h => absurd h (by decide), fun h => absurd h (by decide), fun _ M' hM' => ?_⟩
    obtain rfl : mZR22_init = M' := Option.some.inj ((show ab_gM (hb_Gx O X) 16896 = some mZR22_init from rfl).symm.trans hM')
    exact ⟨fun _ => (hb_w11 138 (by decide +kernel)), ca_mZR22_init.1, ca_mZR22_init.2, fun h => absurd h (by decide), fun h => absurd h (by decide), fun h => absurd h (by decide), fun _ => ⟨rfl, ci_mZR22_init, rfl⟩⟩
  · cases h
theorem hb_T23_ok (O : Nat → Option FieldType) (X : ab_X) : ∀ (ix sort y na ci : Nat), hb_T23 ix = some (sort, y, na, ci) → ∀ M : ab_MI, ab_mo M = 23 → (ab_my M).cls = RX23 →
    (sort = 4 → Cond.methodLink (ab_my M).cls ix objectInit ∈ hb_TB ∧ Cond.instanceMethod objectInit ∈ hb_TB ∧ Cond.code objectInit ⟨#[0xb1]⟩ 1 none ∈ hb_TB) ∧
    (sort = 5 → Cond.methodLink (ab_my M).cls ix arraycopyName ∈ hb_TB ∧ Cond.native arraycopyName ∈ hb_TB ∧ Cond.static arraycopyName ∈ hb_TB ∧ Cond.initialized "java/lang/System" ∈ hb_TB) ∧
    (sort = 7 → Cond.methodLink (ab_my M).cls ix Lib.Math.max.name ∈ hb_TB ∧ Cond.static Lib.Math.max.name ∈ hb_TB ∧ Cond.initialized "java/lang/Math" ∈ hb_TB ∧ Cond.code Lib.Math.max.name Lib.Math.max.code 2 (some .int) ∈ hb_TB) ∧
    (sort = 8 → Cond.methodLink (ab_my M).cls ix Lib.Math.min.name ∈ hb_TB ∧ Cond.static Lib.Math.min.name ∈ hb_TB ∧ Cond.initialized "java/lang/Math" ∈ hb_TB ∧ Cond.code Lib.Math.min.name Lib.Math.min.code 2 (some .int) ∈ hb_TB) ∧
    (sort = 9 → Cond.methodLink (ab_my M).cls ix Lib.MathLoose.min_long.x ∈ hb_TB ∧ Cond.static Lib.MathLoose.min_long.x ∈ hb_TB ∧ Cond.initialized "java/lang/Math" ∈ hb_TB ∧ Cond.code Lib.MathLoose.min_long.x Lib.MathLoose.min_long.code 4 (some .long) ∈ hb_TB) ∧
    (sort < 4 ∨ sort = 6 → ∀ M' : ab_MI, ab_gM (hb_Gx O X) y = some M' → (sort ≠ 3 → Cond.methodLink (ab_my M).cls ix (ab_my M') ∈ hb_TB) ∧ Cond.initialized (ab_my M').cls ∈ hb_TB ∧ ((ab_my M').cls ≠ "java/lang/invoke/MethodHandle" ∧ (ab_my M').cls ≠ "java/lang/invoke/VarHandle" ∧ (parseMethodDescriptor (ab_my M').desc).map (fun d => d.parameters.length) = some na) ∧
      (sort = 0 → Cond.instanceMethod (ab_my M') ∈ hb_TB ∧ Cond.selects (ab_my M').cls (ab_my M') (ab_my M') ∈ hb_TB ∧ ∃ q : vw_C, (ab_gK (hb_Gx O X))[ci]? = some q ∧ q.1 = (ab_my M').cls) ∧
      (sort = 1 → Cond.static (ab_my M') ∈ hb_TB) ∧
      (sort = 6 → Cond.instanceMethod (ab_my M') ∈ hb_TB ∧ Cond.selects (ab_my M').cls (ab_my M') (ab_my M') ∈ hb_TB ∧ (ab_my M').cls = "java/lang/String") ∧
      (sort = 2 ∨ sort = 3 → (ab_my M').name = "<init>" ∧ Cond.instanceMethod (ab_my M') ∈ hb_TB ∧ ab_mr M' = none)) := by
  intro ix sort y na ci h M _ hcl
  rw [hcl]
  unfold hb_T23 at h
  split at h
  · cases h
    refine ⟨fun h => absurd h (by decide), fun h => absurd h (by decide), fun h => absurd h (by decide), fun h => absurd h (by decide), fun h => absurd h (by decide), fun _ M' hM' => ?_⟩
    obtain rfl : mX19_is = M' := Option.some.inj ((show ab_gM (hb_Gx O X) 4867 = some mX19_is from rfl).symm.trans hM')
    exact ⟨fun _ => (hb_w11 157 (by decide +kernel)), ca_mX19_is.1, ca_mX19_is.2, fun _ => ⟨ci_mX19_is, cs_mX19_is, _, rfl, rfl⟩, fun h => absurd h (by decide), fun h => absurd h (by decide), fun h => absurd h (by decide)⟩
  · cases h
    refine ⟨fun h => absurd h (by decide), fun h => absurd h (by decide), fun h => absurd h (by decide), fun h => absurd h (by decide), fun h => absurd h (by decide), fun _ M' hM' => ?_⟩
    obtain rfl : mX23_isName = M' := Option.some.inj ((show ab_gM (hb_Gx O X) 5888 = some mX23_isName from rfl).symm.trans hM')
    exact ⟨fun _ => (hb_w11 153 (by decide +kernel)), ca_mX23_isName.1, ca_mX23_isName.2, fun _ => ⟨ci_mX23_isName, cs_mX23_isName, _, rfl, rfl⟩, fun h => absurd h (by decide), fun h => absurd h (by decide), fun h => absurd h (by decide)⟩
  · cases h
    refine ⟨fun h => absurd h (by decide), fun h => absurd h (by decide), fun h => absurd h (by decide), fun h => absurd h (by decide), fun h => absurd h (by decide), fun _ M' hM' => ?_⟩
    obtain rfl : mX23_kindNamed = M' := Option.some.inj ((show ab_gM (hb_Gx O X) 5890 = some mX23_kindNamed from rfl).symm.trans hM')
    exact ⟨fun _ => (hb_w11 149 (by decide +kernel)), ca_mX23_kindNamed.1, ca_mX23_kindNamed.2, fun _ => ⟨ci_mX23_kindNamed, cs_mX23_kindNamed, _, rfl, rfl⟩, fun h => absurd h (by decide), fun h => absurd h (by decide), fun h => absurd h (by decide)⟩
  · cases h
    refine ⟨fun h => absurd h (by decide), fun h => absurd h (by decide), fun h => absurd h (by decide), fun h => absurd h (by decide), fun h => absurd h (by decide), fun _ M' hM' => ?_⟩
    obtain rfl : mX23_callNamed = M' := Option.some.inj ((show ab_gM (hb_Gx O X) 5891 = some mX23_callNamed from rfl).symm.trans hM')
    exact ⟨fun _ => (hb_w11 161 (by decide +kernel)), ca_mX23_callNamed.1, ca_mX23_callNamed.2, fun _ => ⟨ci_mX23_callNamed, cs_mX23_callNamed, _, rfl, rfl⟩, fun h => absurd h (by decide), fun h => absurd h (by decide), fun h => absurd h (by decide)⟩
  · cases h
    refine ⟨fun h => absurd h (by decide), fun h => absurd h (by decide), fun h => absurd h (by decide), fun h => absurd h (by decide), fun h => absurd h (by decide), fun _ M' hM' => ?_⟩
    obtain rfl : mX23_layerNamed = M' := Option.some.inj ((show ab_gM (hb_Gx O X) 5892 = some mX23_layerNamed from rfl).symm.trans hM')
    exact ⟨fun _ => (hb_w11 165 (by decide +kernel)), ca_mX23_layerNamed.1, ca_mX23_layerNamed.2, fun _ => ⟨ci_mX23_layerNamed, cs_mX23_layerNamed, _, rfl, rfl⟩, fun h => absurd h (by decide), fun h => absurd h (by decide), fun h => absurd h (by decide)⟩
  · cases h
    refine ⟨fun h => absurd h (by decide), fun h => absurd h (by decide), fun h => absurd h (by decide), fun h => absurd h (by decide), fun h => absurd h (by decide), fun _ M' hM' => ?_⟩
    obtain rfl : mX17_place = M' := Option.some.inj ((show ab_gM (hb_Gx O X) 4353 = some mX17_place from rfl).symm.trans hM')
    exact ⟨fun _ => (hb_w9 132 (by decide +kernel)), ca_mX17_place.1, ca_mX17_place.2, fun _ => ⟨ci_mX17_place, cs_mX17_place, _, rfl, rfl⟩, fun h => absurd h (by decide), fun h => absurd h (by decide), fun h => absurd h (by decide)⟩
  · cases h
    refine ⟨fun h => absurd h (by decide), fun h => absurd h (by decide), fun h => absurd h (by decide), fun h => absurd h (by decide), fun h => absurd h (by decide), fun _ M' hM' => ?_⟩
    obtain rfl : mX23_joined = M' := Option.some.inj ((show ab_gM (hb_Gx O X) 5897 = some mX23_joined from rfl).symm.trans hM')
    exact ⟨fun _ => (hb_w9 114 (by decide +kernel)), ca_mX23_joined.1, ca_mX23_joined.2, fun _ => ⟨ci_mX23_joined, cs_mX23_joined, _, rfl, rfl⟩, fun h => absurd h (by decide), fun h => absurd h (by decide), fun h => absurd h (by decide)⟩
  · cases h
    refine ⟨fun h => absurd h (by decide), fun h => absurd h (by decide), fun h => absurd h (by decide), fun h => absurd h (by decide), fun h => absurd h (by decide), fun _ M' hM' => ?_⟩
    obtain rfl : mX23_isFirst = M' := Option.some.inj ((show ab_gM (hb_Gx O X) 5896 = some mX23_isFirst from rfl).symm.trans hM')
    exact ⟨fun _ => (hb_w9 118 (by decide +kernel)), ca_mX23_isFirst.1, ca_mX23_isFirst.2, fun _ => ⟨ci_mX23_isFirst, cs_mX23_isFirst, _, rfl, rfl⟩, fun h => absurd h (by decide), fun h => absurd h (by decide), fun h => absurd h (by decide)⟩
  · cases h
    refine ⟨fun h => absurd h (by decide), fun h => absurd h (by decide), fun h => absurd h (by decide), fun h => absurd h (by decide), fun h => absurd h (by decide), fun _ M' hM' => ?_⟩
    obtain rfl : mJ0_length_8abf5 = M' := Option.some.inj ((show ab_gM (hb_Gx O X) 9472 = some mJ0_length_8abf5 from rfl).symm.trans hM')
    exact ⟨fun _ => (hb_w11 58 (by decide +kernel)), ca_mJ0_length_8abf5.1, ca_mJ0_length_8abf5.2, fun h => absurd h (by decide), fun h => absurd h (by decide), fun _ => ⟨ci_mJ0_length_8abf5, cs_mJ0_length_8abf5, rfl⟩, fun h => absurd h (by decide)⟩
  · cases h
    refine ⟨fun h => absurd h (by decide), fun h => absurd h (by decide), fun h => absurd h (by decide), fun h => absurd h (by decide), fun h => absurd h (by decide), fun _ M' hM' => ?_⟩
    obtain rfl : mJ0_charAt_5068e = M' := Option.some.inj ((show ab_gM (hb_Gx O X) 9473 = some mJ0_charAt_5068e from rfl).symm.trans hM')
    exact ⟨fun _ => (hb_w11 59 (by decide +kernel)), ca_mJ0_charAt_5068e.1, ca_mJ0_charAt_5068e.2, fun h => absurd h (by decide), fun h => absurd h (by decide), fun _ => ⟨ci_mJ0_charAt_5068e, cs_mJ0_charAt_5068e, rfl⟩, fun h => absurd h (by decide)⟩
  · cases h
    refine ⟨fun h => absurd h (by decide), fun h => absurd h (by decide), fun h => absurd h (by decide), fun h => absurd h (by decide), fun h => absurd h (by decide), fun _ M' hM' => ?_⟩
    obtain rfl : mX23_isHere = M' := Option.some.inj ((show ab_gM (hb_Gx O X) 5900 = some mX23_isHere from rfl).symm.trans hM')
    exact ⟨fun _ => (hb_w11 54 (by decide +kernel)), ca_mX23_isHere.1, ca_mX23_isHere.2, fun _ => ⟨ci_mX23_isHere, cs_mX23_isHere, _, rfl, rfl⟩, fun h => absurd h (by decide), fun h => absurd h (by decide), fun h => absurd h (by decide)⟩
  · cases h
    refine ⟨fun h => absurd h (by decide), fun h => absurd h (by decide), fun h => absurd h (by decide), fun h => absurd h (by decide), fun h => absurd h (by decide), fun _ M' hM' => ?_⟩
    obtain rfl : mX23_isLetter = M' := Option.some.inj ((show ab_gM (hb_Gx O X) 5898 = some mX23_isLetter from rfl).symm.trans hM')
    exact ⟨fun _ => (hb_w11 43 (by decide +kernel)), ca_mX23_isLetter.1, ca_mX23_isLetter.2, fun h => absurd h (by decide), fun _ => ct_mX23_isLetter, fun h => absurd h (by decide), fun h => absurd h (by decide)⟩
  · cases h
    refine ⟨fun h => absurd h (by decide), fun h => absurd h (by decide), fun h => absurd h (by decide), fun h => absurd h (by decide), fun h => absurd h (by decide), fun _ M' hM' => ?_⟩
    obtain rfl : mX23_isDigit = M' := Option.some.inj ((show ab_gM (hb_Gx O X) 5899 = some mX23_isDigit from rfl).symm.trans hM')
    exact ⟨fun _ => (hb_w11 46 (by decide +kernel)), ca_mX23_isDigit.1, ca_mX23_isDigit.2, fun h => absurd h (by decide), fun _ => ct_mX23_isDigit, fun h => absurd h (by decide), fun h => absurd h (by decide)⟩
  · cases h
    refine ⟨fun h => absurd h (by decide), fun h => absurd h (by decide), fun h => absurd h (by decide), fun h => absurd h (by decide), fun h => absurd h (by decide), fun _ M' hM' => ?_⟩
    obtain rfl : mX23_word = M' := Option.some.inj ((show ab_gM (hb_Gx O X) 5901 = some mX23_word from rfl).symm.trans hM')
    exact ⟨fun _ => (hb_w11 49 (by decide +kernel)), ca_mX23_word.1, ca_mX23_word.2, fun _ => ⟨ci_mX23_word, cs_mX23_word, _, rfl, rfl⟩, fun h => absurd h (by decide), fun h => absurd h (by decide), fun h => absurd h (by decide)⟩
  · cases h
    exact ⟨fun h => absurd h (by decide), fun h => absurd h (by decide), fun h => absurd h (by decide), fun h => absurd h (by decide), fun _ => ⟨(hb_w11 95 (by decide +kernel)), ca_m9⟩, fun h => absurd h (by decide)⟩
  · cases h
    refine ⟨fun h => absurd h (by decide), fun h => absurd h (by decide), fun h => absurd h (by decide), fun h => absurd h (by decide), fun h => absurd h (by decide), fun _ M' hM' => ?_⟩
    obtain rfl : mJ0_indexOf_0f7a4 = M' := Option.some.inj ((show ab_gM (hb_Gx O X) 9475 = some mJ0_indexOf_0f7a4 from rfl).symm.trans hM')
    exact ⟨fun _ => (hb_w11 98 (by decide +kernel)), ca_mJ0_indexOf_0f7a4.1, ca_mJ0_indexOf_0f7a4.2, fun h => absurd h (by decide), fun h => absurd h (by decide), fun _ => ⟨ci_mJ0_indexOf_0f7a4, cs_mJ0_indexOf_0f7a4, rfl⟩, fun h => absurd h (by decide)⟩
  · cases h
    refine ⟨fun h => absurd h (by decide), fun h => absurd h (by decide), fun h => absurd h (by decide), fun h => absurd h (by decide), fun h => absurd h (by decide), fun _ M' hM' => ?_⟩
    obtain rfl : mX22_init = M' := Option.some.inj ((show ab_gM (hb_Gx O X) 5632 = some mX22_init from rfl).symm.trans hM')
    exact ⟨fun _ => (hb_w11 135 (by decide +kernel)), ca_mX22_init.1, ca_mX22_init.2, fun h => absurd h (by decide), fun h => absurd h (by decide), fun h => absurd h (by decide), fun _ => ⟨rfl, ci_mX22_init, rfl⟩⟩
  · cases h
    refine ⟨fun h => absurd h (by decide), fun h => absurd h (by decide), fun h => absurd h (by decide), fun h => absurd h (by decide), fun h => absurd h (by decide), fun _ M' hM' => ?_⟩
    obtain rfl : mJ0_equals_9ea2d = M' := Option.some.inj ((show ab_gM (hb_Gx O X) 9474 = some mJ0_equals_9ea2d from rfl).symm.trans hM')
    exact ⟨fun _ => (hb_w11 107 (by decide +kernel)), ca_mJ0_equals_9ea2d.1, ca_mJ0_equals_9ea2d.2, fun h => absurd h (by decide), fun h => absurd h (by decide), fun _ => ⟨ci_mJ0_equals_9ea2d, cs_mJ0_equals_9ea2d, rfl⟩, fun h => absurd h (by decide)⟩
  · cases h
    refine ⟨fun h => absurd h (by decide), fun h => absurd h (by decide), fun h => absurd h (by decide), fun h => absurd h (by decide), fun h => absurd h (by decide), fun _ M' hM' => ?_⟩
    obtain rfl : mX23_is = M' := Option.some.inj ((show ab_gM (hb_Gx O X) 5904 = some mX23_is from rfl).symm.trans hM')
    exact ⟨fun _ => (hb_w11 177 (by decide +kernel)), ca_mX23_is.1, ca_mX23_is.2, fun _ => ⟨ci_mX23_is, cs_mX23_is, _, rfl, rfl⟩, fun h => absurd h (by decide), fun h => absurd h (by decide), fun h => absurd h (by decide)⟩
  · cases h
    refine ⟨fun h => absurd h (by decide), fun h => absurd h (by decide), fun h => absurd h (by decide), fun h => absurd h (by decide), fun h => absurd h (by decide), fun _ M' hM' => ?_⟩
    obtain rfl : mX23_no = M' := Option.some.inj ((show ab_gM (hb_Gx O X) 5903 = some mX23_no from rfl).symm.trans hM')
    exact ⟨fun _ => (hb_w11 123 (by decide +kernel)), ca_mX23_no.1, ca_mX23_no.2, fun _ => ⟨ci_mX23_no, cs_mX23_no, _, rfl, rfl⟩, fun h => absurd h (by decide), fun h => absurd h (by decide), fun h => absurd h (by decide)⟩
  · cases h
    refine ⟨fun h => absurd h (by decide), fun h => absurd h (by decide), fun h => absurd h (by decide), fun h => absurd h (by decide), fun h => absurd h (by decide), fun _ M' hM' => ?_⟩
    obtain rfl : mX23_next = M' := Option.some.inj ((show ab_gM (hb_Gx O X) 5902 = some mX23_next from rfl).symm.trans hM')
    exact ⟨fun _ => (hb_w11 39 (by decide +kernel)), ca_mX23_next.1, ca_mX23_next.2, fun _ => ⟨ci_mX23_next, cs_mX23_next, _, rfl, rfl⟩, fun h => absurd h (by decide), fun h => absurd h (by decide), fun h => absurd h (by decide)⟩
  · cases h
    refine ⟨fun h => absurd h (by decide), fun h => absurd h (by decide), fun h => absurd h (by decide), fun h => absurd h (by decide), fun h => absurd h (by decide), fun _ M' hM' => ?_⟩
    obtain rfl : mX23_is_ = M' := Option.some.inj ((show ab_gM (hb_Gx O X) 5905 = some mX23_is_ from rfl).symm.trans hM')
    exact ⟨fun _ => (hb_w11 103 (by decide +kernel)), ca_mX23_is_.1, ca_mX23_is_.2, fun _ => ⟨ci_mX23_is_, cs_mX23_is_, _, rfl, rfl⟩, fun h => absurd h (by decide), fun h => absurd h (by decide), fun h => absurd h (by decide)⟩
  · cases h
    refine ⟨fun h => absurd h (by decide), fun h => absurd h (by decide), fun h => absurd h (by decide), fun h => absurd h (by decide), fun h => absurd h (by decide), fun _ M' hM' => ?_⟩
    obtain rfl : mX23_breaks = M' := Option.some.inj ((show ab_gM (hb_Gx O X) 5910 = some mX23_breaks from rfl).symm.trans hM')
    exact ⟨fun _ => (hb_w11 169 (by decide +kernel)), ca_mX23_breaks.1, ca_mX23_breaks.2, fun _ => ⟨ci_mX23_breaks, cs_mX23_breaks, _, rfl, rfl⟩, fun h => absurd h (by decide), fun h => absurd h (by decide), fun h => absurd h (by decide)⟩
  · cases h
    refine ⟨fun h => absurd h (by decide), fun h => absurd h (by decide), fun h => absurd h (by decide), fun h => absurd h (by decide), fun h => absurd h (by decide), fun _ M' hM' => ?_⟩
    obtain rfl : mX23_start = M' := Option.some.inj ((show ab_gM (hb_Gx O X) 5914 = some mX23_start from rfl).symm.trans hM')
    exact ⟨fun _ => (hb_w11 35 (by decide +kernel)), ca_mX23_start.1, ca_mX23_start.2, fun _ => ⟨ci_mX23_start, cs_mX23_start, _, rfl, rfl⟩, fun h => absurd h (by decide), fun h => absurd h (by decide), fun h => absurd h (by decide)⟩
  · cases h
    refine ⟨fun h => absurd h (by decide), fun h => absurd h (by decide), fun h => absurd h (by decide), fun h => absurd h (by decide), fun h => absurd h (by decide), fun _ M' hM' => ?_⟩
    obtain rfl : mX23_skip = M' := Option.some.inj ((show ab_gM (hb_Gx O X) 5908 = some mX23_skip from rfl).symm.trans hM')
    exact ⟨fun _ => (hb_w11 99 (by decide +kernel)), ca_mX23_skip.1, ca_mX23_skip.2, fun _ => ⟨ci_mX23_skip, cs_mX23_skip, _, rfl, rfl⟩, fun h => absurd h (by decide), fun h => absurd h (by decide), fun h => absurd h (by decide)⟩
  · cases h
    refine ⟨fun h => absurd h (by decide), fun h => absurd h (by decide), fun h => absurd h (by decide), fun h => absurd h (by decide), fun h => absurd h (by decide), fun _ M' hM' => ?_⟩
    obtain rfl : mX23_kind = M' := Option.some.inj ((show ab_gM (hb_Gx O X) 5915 = some mX23_kind from rfl).symm.trans hM')
    exact ⟨fun _ => (hb_w11 115 (by decide +kernel)), ca_mX23_kind.1, ca_mX23_kind.2, fun _ => ⟨ci_mX23_kind, cs_mX23_kind, _, rfl, rfl⟩, fun h => absurd h (by decide), fun h => absurd h (by decide), fun h => absurd h (by decide)⟩
  · cases h
    refine ⟨fun h => absurd h (by decide), fun h => absurd h (by decide), fun h => absurd h (by decide), fun h => absurd h (by decide), fun h => absurd h (by decide), fun _ M' hM' => ?_⟩
    obtain rfl : mX23_call = M' := Option.some.inj ((show ab_gM (hb_Gx O X) 5916 = some mX23_call from rfl).symm.trans hM')
    exact ⟨fun _ => (hb_w11 185 (by decide +kernel)), ca_mX23_call.1, ca_mX23_call.2, fun _ => ⟨ci_mX23_call, cs_mX23_call, _, rfl, rfl⟩, fun h => absurd h (by decide), fun h => absurd h (by decide), fun h => absurd h (by decide)⟩
  · cases h
    refine ⟨fun h => absurd h (by decide), fun h => absurd h (by decide), fun h => absurd h (by decide), fun h => absurd h (by decide), fun h => absurd h (by decide), fun _ M' hM' => ?_⟩
    obtain rfl : mX23_layer = M' := Option.some.inj ((show ab_gM (hb_Gx O X) 5917 = some mX23_layer from rfl).symm.trans hM')
    exact ⟨fun _ => (hb_w11 189 (by decide +kernel)), ca_mX23_layer.1, ca_mX23_layer.2, fun _ => ⟨ci_mX23_layer, cs_mX23_layer, _, rfl, rfl⟩, fun h => absurd h (by decide), fun h => absurd h (by decide), fun h => absurd h (by decide)⟩
  · cases h
    refine ⟨fun h => absurd h (by decide), fun h => absurd h (by decide), fun h => absurd h (by decide), fun h => absurd h (by decide), fun h => absurd h (by decide), fun _ M' hM' => ?_⟩
    obtain rfl : mX23_method = M' := Option.some.inj ((show ab_gM (hb_Gx O X) 5918 = some mX23_method from rfl).symm.trans hM')
    exact ⟨fun _ => (hb_w11 193 (by decide +kernel)), ca_mX23_method.1, ca_mX23_method.2, fun _ => ⟨ci_mX23_method, cs_mX23_method, _, rfl, rfl⟩, fun h => absurd h (by decide), fun h => absurd h (by decide), fun h => absurd h (by decide)⟩
  · cases h
    refine ⟨fun h => absurd h (by decide), fun h => absurd h (by decide), fun h => absurd h (by decide), fun h => absurd h (by decide), fun h => absurd h (by decide), fun _ M' hM' => ?_⟩
    obtain rfl : mX23_name = M' := Option.some.inj ((show ab_gM (hb_Gx O X) 5909 = some mX23_name from rfl).symm.trans hM')
    exact ⟨fun _ => (hb_w11 119 (by decide +kernel)), ca_mX23_name.1, ca_mX23_name.2, fun _ => ⟨ci_mX23_name, cs_mX23_name, _, rfl, rfl⟩, fun h => absurd h (by decide), fun h => absurd h (by decide), fun h => absurd h (by decide)⟩
  · cases h
    refine ⟨fun h => absurd h (by decide), fun h => absurd h (by decide), fun h => absurd h (by decide), fun h => absurd h (by decide), fun h => absurd h (by decide), fun _ M' hM' => ?_⟩
    obtain rfl : mX23_isTold = M' := Option.some.inj ((show ab_gM (hb_Gx O X) 5893 = some mX23_isTold from rfl).symm.trans hM')
    exact ⟨fun _ => (hb_w11 145 (by decide +kernel)), ca_mX23_isTold.1, ca_mX23_isTold.2, fun _ => ⟨ci_mX23_isTold, cs_mX23_isTold, _, rfl, rfl⟩, fun h => absurd h (by decide), fun h => absurd h (by decide), fun h => absurd h (by decide)⟩
  · cases h
    refine ⟨fun h => absurd h (by decide), fun h => absurd h (by decide), fun h => absurd h (by decide), fun h => absurd h (by decide), fun h => absurd h (by decide), fun _ M' hM' => ?_⟩
    obtain rfl : mX19_be = M' := Option.some.inj ((show ab_gM (hb_Gx O X) 4865 = some mX19_be from rfl).symm.trans hM')
    exact ⟨fun _ => (hb_w11 173 (by decide +kernel)), ca_mX19_be.1, ca_mX19_be.2, fun _ => ⟨ci_mX19_be, cs_mX19_be, _, rfl, rfl⟩, fun h => absurd h (by decide), fun h => absurd h (by decide), fun h => absurd h (by decide)⟩
  · cases h
    refine ⟨fun h => absurd h (by decide), fun h => absurd h (by decide), fun h => absurd h (by decide), fun h => absurd h (by decide), fun h => absurd h (by decide), fun _ M' hM' => ?_⟩
    obtain rfl : mX23_want = M' := Option.some.inj ((show ab_gM (hb_Gx O X) 5906 = some mX23_want from rfl).symm.trans hM')
    exact ⟨fun _ => (hb_w11 181 (by decide +kernel)), ca_mX23_want.1, ca_mX23_want.2, fun _ => ⟨ci_mX23_want, cs_mX23_want, _, rfl, rfl⟩, fun h => absurd h (by decide), fun h => absurd h (by decide), fun h => absurd h (by decide)⟩
  · cases h
    refine ⟨fun h => absurd h (by decide), fun h => absurd h (by decide), fun h => absurd h (by decide), fun h => absurd h (by decide), fun h => absurd h (by decide), fun _ M' hM' => ?_⟩
    obtain rfl : mX23_makeRows = M' := Option.some.inj ((show ab_gM (hb_Gx O X) 5895 = some mX23_makeRows from rfl).symm.trans hM')
    exact ⟨fun _ => (hb_w9 110 (by decide +kernel)), ca_mX23_makeRows.1, ca_mX23_makeRows.2, fun _ => ⟨ci_mX23_makeRows, cs_mX23_makeRows, _, rfl, rfl⟩, fun h => absurd h (by decide), fun h => absurd h (by decide), fun h => absurd h (by decide)⟩
  · cases h
    refine ⟨fun h => absurd h (by decide), fun h => absurd h (by decide), fun h => absurd h (by decide), fun h => absurd h (by decide), fun h => absurd h (by decide), fun _ M' hM' => ?_⟩
    obtain rfl : mX23_specs = M' := Option.some.inj ((show ab_gM (hb_Gx O X) 5919 = some mX23_specs from rfl).symm.trans hM')
    exact ⟨fun _ => (hb_w11 197 (by decide +kernel)), ca_mX23_specs.1, ca_mX23_specs.2, fun _ => ⟨ci_mX23_specs, cs_mX23_specs, _, rfl, rfl⟩, fun h => absurd h (by decide), fun h => absurd h (by decide), fun h => absurd h (by decide)⟩
  · cases h
    refine ⟨fun h => absurd h (by decide), fun h => absurd h (by decide), fun h => absurd h (by decide), fun h => absurd h (by decide), fun h => absurd h (by decide), fun _ M' hM' => ?_⟩
    obtain rfl : mX23_test = M' := Option.some.inj ((show ab_gM (hb_Gx O X) 5922 = some mX23_test from rfl).symm.trans hM')
    exact ⟨fun _ => (hb_w11 209 (by decide +kernel)), ca_mX23_test.1, ca_mX23_test.2, fun _ => ⟨ci_mX23_test, cs_mX23_test, _, rfl, rfl⟩, fun h => absurd h (by decide), fun h => absurd h (by decide), fun h => absurd h (by decide)⟩
  · cases h
    refine ⟨fun h => absurd h (by decide), fun h => absurd h (by decide), fun h => absurd h (by decide), fun h => absurd h (by decide), fun h => absurd h (by decide), fun _ M' hM' => ?_⟩
    obtain rfl : mX23_e = M' := Option.some.inj ((show ab_gM (hb_Gx O X) 5930 = some mX23_e from rfl).symm.trans hM')
    exact ⟨fun _ => (hb_w12 151 (by decide +kernel)), ca_mX23_e.1, ca_mX23_e.2, fun _ => ⟨ci_mX23_e, cs_mX23_e, _, rfl, rfl⟩, fun h => absurd h (by decide), fun h => absurd h (by decide), fun h => absurd h (by decide)⟩
  · cases h
    refine ⟨fun h => absurd h (by decide), fun h => absurd h (by decide), fun h => absurd h (by decide), fun h => absurd h (by decide), fun h => absurd h (by decide), fun _ M' hM' => ?_⟩
    obtain rfl : mX23_isThere = M' := Option.some.inj ((show ab_gM (hb_Gx O X) 5921 = some mX23_isThere from rfl).symm.trans hM')
    exact ⟨fun _ => (hb_w12 187 (by decide +kernel)), ca_mX23_isThere.1, ca_mX23_isThere.2, fun _ => ⟨ci_mX23_isThere, cs_mX23_isThere, _, rfl, rfl⟩, fun h => absurd h (by decide), fun h => absurd h (by decide), fun h => absurd h (by decide)⟩
  · cases h
    refine ⟨fun h => absurd h (by decide), fun h => absurd h (by decide), fun h => absurd h (by decide), fun h => absurd h (by decide), fun h => absurd h (by decide), fun _ M' hM' => ?_⟩
    obtain rfl : mX23_isSame = M' := Option.some.inj ((show ab_gM (hb_Gx O X) 5889 = some mX23_isSame from rfl).symm.trans hM')
    exact ⟨fun _ => (hb_w11 201 (by decide +kernel)), ca_mX23_isSame.1, ca_mX23_isSame.2, fun _ => ⟨ci_mX23_isSame, cs_mX23_isSame, _, rfl, rfl⟩, fun h => absurd h (by decide), fun h => absurd h (by decide), fun h => absurd h (by decide)⟩
  · cases h
    refine ⟨fun h => absurd h (by decide), fun h => absurd h (by decide), fun h => absurd h (by decide), fun h => absurd h (by decide), fun h => absurd h (by decide), fun _ M' hM' => ?_⟩
    obtain rfl : mX23_signed = M' := Option.some.inj ((show ab_gM (hb_Gx O X) 5920 = some mX23_signed from rfl).symm.trans hM')
    exact ⟨fun _ => (hb_w11 205 (by decide +kernel)), ca_mX23_signed.1, ca_mX23_signed.2, fun _ => ⟨ci_mX23_signed, cs_mX23_signed, _, rfl, rfl⟩, fun h => absurd h (by decide), fun h => absurd h (by decide), fun h => absurd h (by decide)⟩
  · cases h
    refine ⟨fun h => absurd h (by decide), fun h => absurd h (by decide), fun h => absurd h (by decide), fun h => absurd h (by decide), fun h => absurd h (by decide), fun _ M' hM' => ?_⟩
    obtain rfl : mX23_conjunction = M' := Option.some.inj ((show ab_gM (hb_Gx O X) 5924 = some mX23_conjunction from rfl).symm.trans hM')
    exact ⟨fun _ => (hb_w11 213 (by decide +kernel)), ca_mX23_conjunction.1, ca_mX23_conjunction.2, fun _ => ⟨ci_mX23_conjunction, cs_mX23_conjunction, _, rfl, rfl⟩, fun h => absurd h (by decide), fun h => absurd h (by decide), fun h => absurd h (by decide)⟩
  · cases h
    refine ⟨fun h => absurd h (by decide), fun h => absurd h (by decide), fun h => absurd h (by decide), fun h => absurd h (by decide), fun h => absurd h (by decide), fun _ M' hM' => ?_⟩
    obtain rfl : mX23_two = M' := Option.some.inj ((show ab_gM (hb_Gx O X) 5923 = some mX23_two from rfl).symm.trans hM')
    exact ⟨fun _ => (hb_w12 147 (by decide +kernel)), ca_mX23_two.1, ca_mX23_two.2, fun _ => ⟨ci_mX23_two, cs_mX23_two, _, rfl, rfl⟩, fun h => absurd h (by decide), fun h => absurd h (by decide), fun h => absurd h (by decide)⟩
  · cases h
    refine ⟨fun h => absurd h (by decide), fun h => absurd h (by decide), fun h => absurd h (by decide), fun h => absurd h (by decide), fun h => absurd h (by decide), fun _ M' hM' => ?_⟩
    obtain rfl : mX21_get = M' := Option.some.inj ((show ab_gM (hb_Gx O X) 5377 = some mX21_get from rfl).symm.trans hM')
    exact ⟨fun _ => (hb_w11 225 (by decide +kernel)), ca_mX21_get.1, ca_mX21_get.2, fun _ => ⟨ci_mX21_get, cs_mX21_get, _, rfl, rfl⟩, fun h => absurd h (by decide), fun h => absurd h (by decide), fun h => absurd h (by decide)⟩
  · cases h
    refine ⟨fun h => absurd h (by decide), fun h => absurd h (by decide), fun h => absurd h (by decide), fun h => absurd h (by decide), fun h => absurd h (by decide), fun _ M' hM' => ?_⟩
    obtain rfl : mX23_single = M' := Option.some.inj ((show ab_gM (hb_Gx O X) 5926 = some mX23_single from rfl).symm.trans hM')
    exact ⟨fun _ => (hb_w11 217 (by decide +kernel)), ca_mX23_single.1, ca_mX23_single.2, fun _ => ⟨ci_mX23_single, cs_mX23_single, _, rfl, rfl⟩, fun h => absurd h (by decide), fun h => absurd h (by decide), fun h => absurd h (by decide)⟩
  · cases h
    refine ⟨fun h => absurd h (by decide), fun h => absurd h (by decide), fun h => absurd h (by decide), fun h => absurd h (by decide), fun h => absurd h (by decide), fun _ M' hM' => ?_⟩
    obtain rfl : mX23_into = M' := Option.some.inj ((show ab_gM (hb_Gx O X) 5911 = some mX23_into from rfl).symm.trans hM')
    exact ⟨fun _ => (hb_w11 221 (by decide +kernel)), ca_mX23_into.1, ca_mX23_into.2, fun _ => ⟨ci_mX23_into, cs_mX23_into, _, rfl, rfl⟩, fun h => absurd h (by decide), fun h => absurd h (by decide), fun h => absurd h (by decide)⟩
  · cases h
    refine ⟨fun h => absurd h (by decide), fun h => absurd h (by decide), fun h => absurd h (by decide), fun h => absurd h (by decide), fun h => absurd h (by decide), fun _ M' hM' => ?_⟩
    obtain rfl : mX23_comparison = M' := Option.some.inj ((show ab_gM (hb_Gx O X) 5927 = some mX23_comparison from rfl).symm.trans hM')
    exact ⟨fun _ => (hb_w12 131 (by decide +kernel)), ca_mX23_comparison.1, ca_mX23_comparison.2, fun _ => ⟨ci_mX23_comparison, cs_mX23_comparison, _, rfl, rfl⟩, fun h => absurd h (by decide), fun h => absurd h (by decide), fun h => absurd h (by decide)⟩
  · cases h
    refine ⟨fun h => absurd h (by decide), fun h => absurd h (by decide), fun h => absurd h (by decide), fun h => absurd h (by decide), fun h => absurd h (by decide), fun _ M' hM' => ?_⟩
    obtain rfl : mX23_spec = M' := Option.some.inj ((show ab_gM (hb_Gx O X) 5925 = some mX23_spec from rfl).symm.trans hM')
    exact ⟨fun _ => (hb_w12 135 (by decide +kernel)), ca_mX23_spec.1, ca_mX23_spec.2, fun _ => ⟨ci_mX23_spec, cs_mX23_spec, _, rfl, rfl⟩, fun h => absurd h (by decide), fun h => absurd h (by decide), fun h => absurd h (by decide)⟩
  · cases h
    refine ⟨fun h => absurd h (by decide), fun h => absurd h (by decide), fun h => absurd h (by decide), fun h => absurd h (by decide), fun h => absurd h (by decide), fun _ M' hM' => ?_⟩
    obtain rfl : mX23_counts = M' := Option.some.inj ((show ab_gM (hb_Gx O X) 5928 = some mX23_counts from rfl).symm.trans hM')
    exact ⟨fun _ => (hb_w12 139 (by decide +kernel)), ca_mX23_counts.1, ca_mX23_counts.2, fun _ => ⟨ci_mX23_counts, cs_mX23_counts, _, rfl, rfl⟩, fun h => absurd h (by decide), fun h => absurd h (by decide), fun h => absurd h (by decide)⟩
  · cases h
    refine ⟨fun h => absurd h (by decide), fun h => absurd h (by decide), fun h => absurd h (by decide), fun h => absurd h (by decide), fun h => absurd h (by decide), fun _ M' hM' => ?_⟩
    obtain rfl : mX23_behind = M' := Option.some.inj ((show ab_gM (hb_Gx O X) 5929 = some mX23_behind from rfl).symm.trans hM')
    exact ⟨fun _ => (hb_w12 143 (by decide +kernel)), ca_mX23_behind.1, ca_mX23_behind.2, fun _ => ⟨ci_mX23_behind, cs_mX23_behind, _, rfl, rfl⟩, fun h => absurd h (by decide), fun h => absurd h (by decide), fun h => absurd h (by decide)⟩
  · cases h
    refine ⟨fun h => absurd h (by decide), fun h => absurd h (by decide), fun h => absurd h (by decide), fun h => absurd h (by decide), fun h => absurd h (by decide), fun _ M' hM' => ?_⟩
    obtain rfl : mX23_counted = M' := Option.some.inj ((show ab_gM (hb_Gx O X) 5912 = some mX23_counted from rfl).symm.trans hM')
    exact ⟨fun _ => (hb_w12 155 (by decide +kernel)), ca_mX23_counted.1, ca_mX23_counted.2, fun _ => ⟨ci_mX23_counted, cs_mX23_counted, _, rfl, rfl⟩, fun h => absurd h (by decide), fun h => absurd h (by decide), fun h => absurd h (by decide)⟩
  · cases h
    refine ⟨fun h => absurd h (by decide), fun h => absurd h (by decide), fun h => absurd h (by decide), fun h => absurd h (by decide), fun h => absurd h (by decide), fun _ M' hM' => ?_⟩
    obtain rfl : mX23_want_ = M' := Option.some.inj ((show ab_gM (hb_Gx O X) 5907 = some mX23_want_ from rfl).symm.trans hM')
    exact ⟨fun _ => (hb_w12 159 (by decide +kernel)), ca_mX23_want_.1, ca_mX23_want_.2, fun _ => ⟨ci_mX23_want_, cs_mX23_want_, _, rfl, rfl⟩, fun h => absurd h (by decide), fun h => absurd h (by decide), fun h => absurd h (by decide)⟩
  · cases h
    refine ⟨fun h => absurd h (by decide), fun h => absurd h (by decide), fun h => absurd h (by decide), fun h => absurd h (by decide), fun h => absurd h (by decide), fun _ M' hM' => ?_⟩
    obtain rfl : mX23_under = M' := Option.some.inj ((show ab_gM (hb_Gx O X) 5931 = some mX23_under from rfl).symm.trans hM')
    exact ⟨fun _ => (hb_w12 163 (by decide +kernel)), ca_mX23_under.1, ca_mX23_under.2, fun _ => ⟨ci_mX23_under, cs_mX23_under, _, rfl, rfl⟩, fun h => absurd h (by decide), fun h => absurd h (by decide), fun h => absurd h (by decide)⟩
  · cases h
    refine ⟨fun h => absurd h (by decide), fun h => absurd h (by decide), fun h => absurd h (by decide), fun h => absurd h (by decide), fun h => absurd h (by decide), fun _ M' hM' => ?_⟩
    obtain rfl : mX23_compared = M' := Option.some.inj ((show ab_gM (hb_Gx O X) 5932 = some mX23_compared from rfl).symm.trans hM')
    exact ⟨fun _ => (hb_w12 167 (by decide +kernel)), ca_mX23_compared.1, ca_mX23_compared.2, fun _ => ⟨ci_mX23_compared, cs_mX23_compared, _, rfl, rfl⟩, fun h => absurd h (by decide), fun h => absurd h (by decide), fun h => absurd h (by decide)⟩
  · cases h
    refine ⟨fun h => absurd h (by decide), fun h => absurd h (by decide), fun h => absurd h (by decide), fun h => absurd h (by decide), fun h => absurd h (by decide), fun _ M' hM' => ?_⟩
    obtain rfl : mX23_chain = M' := Option.some.inj ((show ab_gM (hb_Gx O X) 5933 = some mX23_chain from rfl).symm.trans hM')
    exact ⟨fun _ => (hb_w12 171 (by decide +kernel)), ca_mX23_chain.1, ca_mX23_chain.2, fun _ => ⟨ci_mX23_chain, cs_mX23_chain, _, rfl, rfl⟩, fun h => absurd h (by decide), fun h => absurd h (by decide), fun h => absurd h (by decide)⟩
  · cases h
    refine ⟨fun h => absurd h (by decide), fun h => absurd h (by decide), fun h => absurd h (by decide), fun h => absurd h (by decide), fun h => absurd h (by decide), fun _ M' hM' => ?_⟩
    obtain rfl : mX23_p = M' := Option.some.inj ((show ab_gM (hb_Gx O X) 5934 = some mX23_p from rfl).symm.trans hM')
    exact ⟨fun _ => (hb_w12 175 (by decide +kernel)), ca_mX23_p.1, ca_mX23_p.2, fun _ => ⟨ci_mX23_p, cs_mX23_p, _, rfl, rfl⟩, fun h => absurd h (by decide), fun h => absurd h (by decide), fun h => absurd h (by decide)⟩
  · cases h
    refine ⟨fun h => absurd h (by decide), fun h => absurd h (by decide), fun h => absurd h (by decide), fun h => absurd h (by decide), fun h => absurd h (by decide), fun _ M' hM' => ?_⟩
    obtain rfl : mX23_named = M' := Option.some.inj ((show ab_gM (hb_Gx O X) 5935 = some mX23_named from rfl).symm.trans hM')
    exact ⟨fun _ => (hb_w12 179 (by decide +kernel)), ca_mX23_named.1, ca_mX23_named.2, fun _ => ⟨ci_mX23_named, cs_mX23_named, _, rfl, rfl⟩, fun h => absurd h (by decide), fun h => absurd h (by decide), fun h => absurd h (by decide)⟩
  · cases h
    refine ⟨fun h => absurd h (by decide), fun h => absurd h (by decide), fun h => absurd h (by decide), fun h => absurd h (by decide), fun h => absurd h (by decide), fun _ M' hM' => ?_⟩
    obtain rfl : mX23_arguments = M' := Option.some.inj ((show ab_gM (hb_Gx O X) 5936 = some mX23_arguments from rfl).symm.trans hM')
    exact ⟨fun _ => (hb_w12 183 (by decide +kernel)), ca_mX23_arguments.1, ca_mX23_arguments.2, fun _ => ⟨ci_mX23_arguments, cs_mX23_arguments, _, rfl, rfl⟩, fun h => absurd h (by decide), fun h => absurd h (by decide), fun h => absurd h (by decide)⟩
  · cases h
    refine ⟨fun h => absurd h (by decide), fun h => absurd h (by decide), fun h => absurd h (by decide), fun h => absurd h (by decide), fun h => absurd h (by decide), fun _ M' hM' => ?_⟩
    obtain rfl : mX23_isBelow = M' := Option.some.inj ((show ab_gM (hb_Gx O X) 5894 = some mX23_isBelow from rfl).symm.trans hM')
    exact ⟨fun _ => (hb_w9 128 (by decide +kernel)), ca_mX23_isBelow.1, ca_mX23_isBelow.2, fun _ => ⟨ci_mX23_isBelow, cs_mX23_isBelow, _, rfl, rfl⟩, fun h => absurd h (by decide), fun h => absurd h (by decide), fun h => absurd h (by decide)⟩
  · cases h
    refine ⟨fun h => absurd h (by decide), fun h => absurd h (by decide), fun h => absurd h (by decide), fun h => absurd h (by decide), fun h => absurd h (by decide), fun _ M' hM' => ?_⟩
    obtain rfl : mX23_forget = M' := Option.some.inj ((show ab_gM (hb_Gx O X) 5949 = some mX23_forget from rfl).symm.trans hM')
    exact ⟨fun _ => (hb_w9 136 (by decide +kernel)), ca_mX23_forget.1, ca_mX23_forget.2, fun _ => ⟨ci_mX23_forget, cs_mX23_forget, _, rfl, rfl⟩, fun h => absurd h (by decide), fun h => absurd h (by decide), fun h => absurd h (by decide)⟩
  · cases h
    refine ⟨fun h => absurd h (by decide), fun h => absurd h (by decide), fun h => absurd h (by decide), fun h => absurd h (by decide), fun h => absurd h (by decide), fun _ M' hM' => ?_⟩
    obtain rfl : mX23_atom = M' := Option.some.inj ((show ab_gM (hb_Gx O X) 5940 = some mX23_atom from rfl).symm.trans hM')
    exact ⟨fun _ => (hb_w13 8 (by decide +kernel)), ca_mX23_atom.1, ca_mX23_atom.2, fun _ => ⟨ci_mX23_atom, cs_mX23_atom, _, rfl, rfl⟩, fun h => absurd h (by decide), fun h => absurd h (by decide), fun h => absurd h (by decide)⟩
  · cases h
    refine ⟨fun h => absurd h (by decide), fun h => absurd h (by decide), fun h => absurd h (by decide), fun h => absurd h (by decide), fun h => absurd h (by decide), fun _ M' hM' => ?_⟩
    obtain rfl : mX23_atoms = M' := Option.some.inj ((show ab_gM (hb_Gx O X) 5941 = some mX23_atoms from rfl).symm.trans hM')
    exact ⟨fun _ => (hb_w13 12 (by decide +kernel)), ca_mX23_atoms.1, ca_mX23_atoms.2, fun _ => ⟨ci_mX23_atoms, cs_mX23_atoms, _, rfl, rfl⟩, fun h => absurd h (by decide), fun h => absurd h (by decide), fun h => absurd h (by decide)⟩
  · cases h
    refine ⟨fun h => absurd h (by decide), fun h => absurd h (by decide), fun h => absurd h (by decide), fun h => absurd h (by decide), fun h => absurd h (by decide), fun _ M' hM' => ?_⟩
    obtain rfl : mX23_explore = M' := Option.some.inj ((show ab_gM (hb_Gx O X) 5943 = some mX23_explore from rfl).symm.trans hM')
    exact ⟨fun _ => (hb_w13 17 (by decide +kernel)), ca_mX23_explore.1, ca_mX23_explore.2, fun _ => ⟨ci_mX23_explore, cs_mX23_explore, _, rfl, rfl⟩, fun h => absurd h (by decide), fun h => absurd h (by decide), fun h => absurd h (by decide)⟩
  · cases h
    refine ⟨fun h => absurd h (by decide), fun h => absurd h (by decide), fun h => absurd h (by decide), fun h => absurd h (by decide), fun h => absurd h (by decide), fun _ M' hM' => ?_⟩
    obtain rfl : mX23_takes = M' := Option.some.inj ((show ab_gM (hb_Gx O X) 5947 = some mX23_takes from rfl).symm.trans hM')
    exact ⟨fun _ => (hb_w13 21 (by decide +kernel)), ca_mX23_takes.1, ca_mX23_takes.2, fun _ => ⟨ci_mX23_takes, cs_mX23_takes, _, rfl, rfl⟩, fun h => absurd h (by decide), fun h => absurd h (by decide), fun h => absurd h (by decide)⟩
  · cases h
    refine ⟨fun h => absurd h (by decide), fun h => absurd h (by decide), fun h => absurd h (by decide), fun h => absurd h (by decide), fun h => absurd h (by decide), fun _ M' hM' => ?_⟩
    obtain rfl : mJ13_signum_95d88 = M' := Option.some.inj ((show ab_gM (hb_Gx O X) 8962 = some mJ13_signum_95d88 from rfl).symm.trans hM')
    exact ⟨fun _ => (hb_w13 35 (by decide +kernel)), ca_mJ13_signum_95d88.1, ca_mJ13_signum_95d88.2, fun h => absurd h (by decide), fun _ => ct_mJ13_signum_95d88, fun h => absurd h (by decide), fun h => absurd h (by decide)⟩
  · cases h
    refine ⟨fun h => absurd h (by decide), fun h => absurd h (by decide), fun h => absurd h (by decide), fun h => absurd h (by decide), fun h => absurd h (by decide), fun _ M' hM' => ?_⟩
    obtain rfl : mX23_bound = M' := Option.some.inj ((show ab_gM (hb_Gx O X) 5944 = some mX23_bound from rfl).symm.trans hM')
    exact ⟨fun _ => (hb_w13 38 (by decide +kernel)), ca_mX23_bound.1, ca_mX23_bound.2, fun h => absurd h (by decide), fun _ => ct_mX23_bound, fun h => absurd h (by decide), fun h => absurd h (by decide)⟩
  · cases h
    refine ⟨fun h => absurd h (by decide), fun h => absurd h (by decide), fun h => absurd h (by decide), fun h => absurd h (by decide), fun h => absurd h (by decide), fun _ M' hM' => ?_⟩
    obtain rfl : mX23_both = M' := Option.some.inj ((show ab_gM (hb_Gx O X) 5945 = some mX23_both from rfl).symm.trans hM')
    exact ⟨fun _ => (hb_w13 25 (by decide +kernel)), ca_mX23_both.1, ca_mX23_both.2, fun h => absurd h (by decide), fun _ => ct_mX23_both, fun h => absurd h (by decide), fun h => absurd h (by decide)⟩
  · cases h
    refine ⟨fun h => absurd h (by decide), fun h => absurd h (by decide), fun h => absurd h (by decide), fun h => absurd h (by decide), fun h => absurd h (by decide), fun _ M' hM' => ?_⟩
    obtain rfl : mX23_holds = M' := Option.some.inj ((show ab_gM (hb_Gx O X) 5948 = some mX23_holds from rfl).symm.trans hM')
    exact ⟨fun _ => (hb_w13 28 (by decide +kernel)), ca_mX23_holds.1, ca_mX23_holds.2, fun _ => ⟨ci_mX23_holds, cs_mX23_holds, _, rfl, rfl⟩, fun h => absurd h (by decide), fun h => absurd h (by decide), fun h => absurd h (by decide)⟩
  · cases h
    refine ⟨fun h => absurd h (by decide), fun h => absurd h (by decide), fun h => absurd h (by decide), fun h => absurd h (by decide), fun h => absurd h (by decide), fun _ M' hM' => ?_⟩
    obtain rfl : mX23_not = M' := Option.some.inj ((show ab_gM (hb_Gx O X) 5946 = some mX23_not from rfl).symm.trans hM')
    exact ⟨fun _ => (hb_w13 32 (by decide +kernel)), ca_mX23_not.1, ca_mX23_not.2, fun h => absurd h (by decide), fun _ => ct_mX23_not, fun h => absurd h (by decide), fun h => absurd h (by decide)⟩
  · cases h
    refine ⟨fun h => absurd h (by decide), fun h => absurd h (by decide), fun h => absurd h (by decide), fun h => absurd h (by decide), fun h => absurd h (by decide), fun _ M' hM' => ?_⟩
    obtain rfl : mX23_reckoned = M' := Option.some.inj ((show ab_gM (hb_Gx O X) 5951 = some mX23_reckoned from rfl).symm.trans hM')
    exact ⟨fun _ => (hb_w12 236 (by decide +kernel)), ca_mX23_reckoned.1, ca_mX23_reckoned.2, fun _ => ⟨ci_mX23_reckoned, cs_mX23_reckoned, _, rfl, rfl⟩, fun h => absurd h (by decide), fun h => absurd h (by decide), fun h => absurd h (by decide)⟩
  · cases h
    refine ⟨fun h => absurd h (by decide), fun h => absurd h (by decide), fun h => absurd h (by decide), fun h => absurd h (by decide), fun h => absurd h (by decide), fun _ M' hM' => ?_⟩
    obtain rfl : mX23_asksMore = M' := Option.some.inj ((show ab_gM (hb_Gx O X) 5952 = some mX23_asksMore from rfl).symm.trans hM')
    exact ⟨fun _ => (hb_w13 0 (by decide +kernel)), ca_mX23_asksMore.1, ca_mX23_asksMore.2, fun _ => ⟨ci_mX23_asksMore, cs_mX23_asksMore, _, rfl, rfl⟩, fun h => absurd h (by decide), fun h => absurd h (by decide), fun h => absurd h (by decide)⟩
  · cases h
    refine ⟨fun h => absurd h (by decide), fun h => absurd h (by decide), fun h => absurd h (by decide), fun h => absurd h (by decide), fun h => absurd h (by decide), fun _ M' hM' => ?_⟩
    obtain rfl : mJ6_compare_7cf53 = M' := Option.some.inj ((show ab_gM (hb_Gx O X) 8448 = some mJ6_compare_7cf53 from rfl).symm.trans hM')
    exact ⟨fun _ => (hb_w13 41 (by decide +kernel)), ca_mJ6_compare_7cf53.1, ca_mJ6_compare_7cf53.2, fun h => absurd h (by decide), fun _ => ct_mJ6_compare_7cf53, fun h => absurd h (by decide), fun h => absurd h (by decide)⟩
  · cases h
    refine ⟨fun h => absurd h (by decide), fun h => absurd h (by decide), fun h => absurd h (by decide), fun h => absurd h (by decide), fun h => absurd h (by decide), fun _ M' hM' => ?_⟩
    obtain rfl : mX23_see = M' := Option.some.inj ((show ab_gM (hb_Gx O X) 5942 = some mX23_see from rfl).symm.trans hM')
    exact ⟨fun _ => (hb_w13 4 (by decide +kernel)), ca_mX23_see.1, ca_mX23_see.2, fun _ => ⟨ci_mX23_see, cs_mX23_see, _, rfl, rfl⟩, fun h => absurd h (by decide), fun h => absurd h (by decide), fun h => absurd h (by decide)⟩
  · cases h
    refine ⟨fun h => absurd h (by decide), fun h => absurd h (by decide), fun h => absurd h (by decide), fun h => absurd h (by decide), fun h => absurd h (by decide), fun _ M' hM' => ?_⟩
    obtain rfl : mX23_isAlike = M' := Option.some.inj ((show ab_gM (hb_Gx O X) 5954 = some mX23_isAlike from rfl).symm.trans hM')
    exact ⟨fun _ => (hb_w13 55 (by decide +kernel)), ca_mX23_isAlike.1, ca_mX23_isAlike.2, fun h => absurd h (by decide), fun _ => ct_mX23_isAlike, fun h => absurd h (by decide), fun h => absurd h (by decide)⟩
  · cases h
    refine ⟨fun h => absurd h (by decide), fun h => absurd h (by decide), fun h => absurd h (by decide), fun h => absurd h (by decide), fun h => absurd h (by decide), fun _ M' hM' => ?_⟩
    obtain rfl : mX23_group = M' := Option.some.inj ((show ab_gM (hb_Gx O X) 5953 = some mX23_group from rfl).symm.trans hM')
    exact ⟨fun _ => (hb_w13 50 (by decide +kernel)), ca_mX23_group.1, ca_mX23_group.2, fun _ => ⟨ci_mX23_group, cs_mX23_group, _, rfl, rfl⟩, fun h => absurd h (by decide), fun h => absurd h (by decide), fun h => absurd h (by decide)⟩
  · cases h
    refine ⟨fun h => absurd h (by decide), fun h => absurd h (by decide), fun h => absurd h (by decide), fun h => absurd h (by decide), fun h => absurd h (by decide), fun _ M' hM' => ?_⟩
    obtain rfl : mX23_nothingIs = M' := Option.some.inj ((show ab_gM (hb_Gx O X) 5956 = some mX23_nothingIs from rfl).symm.trans hM')
    exact ⟨fun _ => (hb_w13 58 (by decide +kernel)), ca_mX23_nothingIs.1, ca_mX23_nothingIs.2, fun _ => ⟨ci_mX23_nothingIs, cs_mX23_nothingIs, _, rfl, rfl⟩, fun h => absurd h (by decide), fun h => absurd h (by decide), fun h => absurd h (by decide)⟩
  · cases h
    refine ⟨fun h => absurd h (by decide), fun h => absurd h (by decide), fun h => absurd h (by decide), fun h => absurd h (by decide), fun h => absurd h (by decide), fun _ M' hM' => ?_⟩
    obtain rfl : mX23_isNew = M' := Option.some.inj ((show ab_gM (hb_Gx O X) 5955 = some mX23_isNew from rfl).symm.trans hM')
    exact ⟨fun _ => (hb_w13 62 (by decide +kernel)), ca_mX23_isNew.1, ca_mX23_isNew.2, fun _ => ⟨ci_mX23_isNew, cs_mX23_isNew, _, rfl, rfl⟩, fun h => absurd h (by decide), fun h => absurd h (by decide), fun h => absurd h (by decide)⟩
  · cases h
    refine ⟨fun h => absurd h (by decide), fun h => absurd h (by decide), fun h => absurd h (by decide), fun h => absurd h (by decide), fun h => absurd h (by decide), fun _ M' hM' => ?_⟩
    obtain rfl : mX23_place = M' := Option.some.inj ((show ab_gM (hb_Gx O X) 5959 = some mX23_place from rfl).symm.trans hM')
    exact ⟨fun _ => (hb_w13 89 (by decide +kernel)), ca_mX23_place.1, ca_mX23_place.2, fun h => absurd h (by decide), fun _ => ct_mX23_place, fun h => absurd h (by decide), fun h => absurd h (by decide)⟩
  · cases h
    refine ⟨fun h => absurd h (by decide), fun h => absurd h (by decide), fun h => absurd h (by decide), fun h => absurd h (by decide), fun h => absurd h (by decide), fun _ M' hM' => ?_⟩
    obtain rfl : mX23_matter = M' := Option.some.inj ((show ab_gM (hb_Gx O X) 5961 = some mX23_matter from rfl).symm.trans hM')
    exact ⟨fun _ => (hb_w13 85 (by decide +kernel)), ca_mX23_matter.1, ca_mX23_matter.2, fun _ => ⟨ci_mX23_matter, cs_mX23_matter, _, rfl, rfl⟩, fun h => absurd h (by decide), fun h => absurd h (by decide), fun h => absurd h (by decide)⟩
  · cases h
    refine ⟨fun h => absurd h (by decide), fun h => absurd h (by decide), fun h => absurd h (by decide), fun h => absurd h (by decide), fun h => absurd h (by decide), fun _ M' hM' => ?_⟩
    obtain rfl : mX23_orderCount = M' := Option.some.inj ((show ab_gM (hb_Gx O X) 5960 = some mX23_orderCount from rfl).symm.trans hM')
    exact ⟨fun _ => (hb_w13 77 (by decide +kernel)), ca_mX23_orderCount.1, ca_mX23_orderCount.2, fun _ => ⟨ci_mX23_orderCount, cs_mX23_orderCount, _, rfl, rfl⟩, fun h => absurd h (by decide), fun h => absurd h (by decide), fun h => absurd h (by decide)⟩
  · cases h
    refine ⟨fun h => absurd h (by decide), fun h => absurd h (by decide), fun h => absurd h (by decide), fun h => absurd h (by decide), fun h => absurd h (by decide), fun _ M' hM' => ?_⟩
    obtain rfl : mX23_nodeCount = M' := Option.some.inj ((show ab_gM (hb_Gx O X) 5962 = some mX23_nodeCount from rfl).symm.trans hM')
    exact ⟨fun _ => (hb_w13 81 (by decide +kernel)), ca_mX23_nodeCount.1, ca_mX23_nodeCount.2, fun _ => ⟨ci_mX23_nodeCount, cs_mX23_nodeCount, _, rfl, rfl⟩, fun h => absurd h (by decide), fun h => absurd h (by decide), fun h => absurd h (by decide)⟩
  · cases h
    refine ⟨fun h => absurd h (by decide), fun h => absurd h (by decide), fun h => absurd h (by decide), fun h => absurd h (by decide), fun h => absurd h (by decide), fun _ M' hM' => ?_⟩
    obtain rfl : mX23_order = M' := Option.some.inj ((show ab_gM (hb_Gx O X) 5963 = some mX23_order from rfl).symm.trans hM')
    exact ⟨fun _ => (hb_w13 73 (by decide +kernel)), ca_mX23_order.1, ca_mX23_order.2, fun _ => ⟨ci_mX23_order, cs_mX23_order, _, rfl, rfl⟩, fun h => absurd h (by decide), fun h => absurd h (by decide), fun h => absurd h (by decide)⟩
  · cases h
    refine ⟨fun h => absurd h (by decide), fun h => absurd h (by decide), fun h => absurd h (by decide), fun h => absurd h (by decide), fun h => absurd h (by decide), fun _ M' hM' => ?_⟩
    obtain rfl : mX23_without = M' := Option.some.inj ((show ab_gM (hb_Gx O X) 5965 = some mX23_without from rfl).symm.trans hM')
    exact ⟨fun _ => (hb_w13 153 (by decide +kernel)), ca_mX23_without.1, ca_mX23_without.2, fun h => absurd h (by decide), fun _ => ct_mX23_without, fun h => absurd h (by decide), fun h => absurd h (by decide)⟩
  · cases h
    refine ⟨fun h => absurd h (by decide), fun h => absurd h (by decide), fun h => absurd h (by decide), fun h => absurd h (by decide), fun h => absurd h (by decide), fun _ M' hM' => ?_⟩
    obtain rfl : mX23_isOn = M' := Option.some.inj ((show ab_gM (hb_Gx O X) 5967 = some mX23_isOn from rfl).symm.trans hM')
    exact ⟨fun _ => (hb_w13 184 (by decide +kernel)), ca_mX23_isOn.1, ca_mX23_isOn.2, fun h => absurd h (by decide), fun _ => ct_mX23_isOn, fun h => absurd h (by decide), fun h => absurd h (by decide)⟩
  · cases h
    refine ⟨fun h => absurd h (by decide), fun h => absurd h (by decide), fun h => absurd h (by decide), fun h => absurd h (by decide), fun h => absurd h (by decide), fun _ M' hM' => ?_⟩
    obtain rfl : mX23_isTrue = M' := Option.some.inj ((show ab_gM (hb_Gx O X) 5970 = some mX23_isTrue from rfl).symm.trans hM')
    exact ⟨fun _ => (hb_w13 187 (by decide +kernel)), ca_mX23_isTrue.1, ca_mX23_isTrue.2, fun _ => ⟨ci_mX23_isTrue, cs_mX23_isTrue, _, rfl, rfl⟩, fun h => absurd h (by decide), fun h => absurd h (by decide), fun h => absurd h (by decide)⟩
  · cases h
    refine ⟨fun h => absurd h (by decide), fun h => absurd h (by decide), fun h => absurd h (by decide), fun h => absurd h (by decide), fun h => absurd h (by decide), fun _ M' hM' => ?_⟩
    obtain rfl : mX23_term = M' := Option.some.inj ((show ab_gM (hb_Gx O X) 5969 = some mX23_term from rfl).symm.trans hM')
    exact ⟨fun _ => (hb_w13 191 (by decide +kernel)), ca_mX23_term.1, ca_mX23_term.2, fun h => absurd h (by decide), fun _ => ct_mX23_term, fun h => absurd h (by decide), fun h => absurd h (by decide)⟩
  · cases h
    refine ⟨fun h => absurd h (by decide), fun h => absurd h (by decide), fun h => absurd h (by decide), fun h => absurd h (by decide), fun h => absurd h (by decide), fun _ M' hM' => ?_⟩
    obtain rfl : mX23_nearer = M' := Option.some.inj ((show ab_gM (hb_Gx O X) 5950 = some mX23_nearer from rfl).symm.trans hM')
    exact ⟨fun _ => (hb_w12 232 (by decide +kernel)), ca_mX23_nearer.1, ca_mX23_nearer.2, fun _ => ⟨ci_mX23_nearer, cs_mX23_nearer, _, rfl, rfl⟩, fun h => absurd h (by decide), fun h => absurd h (by decide), fun h => absurd h (by decide)⟩
  · cases h
    refine ⟨fun h => absurd h (by decide), fun h => absurd h (by decide), fun h => absurd h (by decide), fun h => absurd h (by decide), fun h => absurd h (by decide), fun _ M' hM' => ?_⟩
    obtain rfl : mX23_firstOf = M' := Option.some.inj ((show ab_gM (hb_Gx O X) 5971 = some mX23_firstOf from rfl).symm.trans hM')
    exact ⟨fun _ => (hb_w13 122 (by decide +kernel)), ca_mX23_firstOf.1, ca_mX23_firstOf.2, fun _ => ⟨ci_mX23_firstOf, cs_mX23_firstOf, _, rfl, rfl⟩, fun h => absurd h (by decide), fun h => absurd h (by decide), fun h => absurd h (by decide)⟩
  · cases h
    exact ⟨fun h => absurd h (by decide), fun h => absurd h (by decide), fun _ => ⟨(hb_w13 198 (by decide +kernel)), ca_m7⟩, fun h => absurd h (by decide), fun h => absurd h (by decide), fun h => absurd h (by decide)⟩
  · cases h
    refine ⟨fun h => absurd h (by decide), fun h => absurd h (by decide), fun h => absurd h (by decide), fun h => absurd h (by decide), fun h => absurd h (by decide), fun _ M' hM' => ?_⟩
    obtain rfl : mX23_value = M' := Option.some.inj ((show ab_gM (hb_Gx O X) 5973 = some mX23_value from rfl).symm.trans hM')
    exact ⟨fun _ => (hb_w13 134 (by decide +kernel)), ca_mX23_value.1, ca_mX23_value.2, fun h => absurd h (by decide), fun _ => ct_mX23_value, fun h => absurd h (by decide), fun h => absurd h (by decide)⟩
  · cases h
    refine ⟨fun h => absurd h (by decide), fun h => absurd h (by decide), fun h => absurd h (by decide), fun h => absurd h (by decide), fun h => absurd h (by decide), fun _ M' hM' => ?_⟩
    obtain rfl : mX23_ends = M' := Option.some.inj ((show ab_gM (hb_Gx O X) 5976 = some mX23_ends from rfl).symm.trans hM')
    exact ⟨fun _ => (hb_w13 146 (by decide +kernel)), ca_mX23_ends.1, ca_mX23_ends.2, fun _ => ⟨ci_mX23_ends, cs_mX23_ends, _, rfl, rfl⟩, fun h => absurd h (by decide), fun h => absurd h (by decide), fun h => absurd h (by decide)⟩
  · cases h
    refine ⟨fun h => absurd h (by decide), fun h => absurd h (by decide), fun h => absurd h (by decide), fun h => absurd h (by decide), fun h => absurd h (by decide), fun _ M' hM' => ?_⟩
    obtain rfl : mX23_step = M' := Option.some.inj ((show ab_gM (hb_Gx O X) 5977 = some mX23_step from rfl).symm.trans hM')
    exact ⟨fun _ => (hb_w13 142 (by decide +kernel)), ca_mX23_step.1, ca_mX23_step.2, fun _ => ⟨ci_mX23_step, cs_mX23_step, _, rfl, rfl⟩, fun h => absurd h (by decide), fun h => absurd h (by decide), fun h => absurd h (by decide)⟩
  · cases h
    exact ⟨fun h => absurd h (by decide), fun h => absurd h (by decide), fun h => absurd h (by decide), fun h => absurd h (by decide), fun h => absurd h (by decide), fun _ M' hM' => by cases (show ab_gM (hb_Gx O X) 6088 = none from rfl).symm.trans hM'⟩
  · cases h
    refine ⟨fun h => absurd h (by decide), fun h => absurd h (by decide), fun h => absurd h (by decide), fun h => absurd h (by decide), fun h => absurd h (by decide), fun _ M' hM' => ?_⟩
    obtain rfl : mX23_with = M' := Option.some.inj ((show ab_gM (hb_Gx O X) 5966 = some mX23_with from rfl).symm.trans hM')
    exact ⟨fun _ => (hb_w13 150 (by decide +kernel)), ca_mX23_with.1, ca_mX23_with.2, fun h => absurd h (by decide), fun _ => ct_mX23_with, fun h => absurd h (by decide), fun h => absurd h (by decide)⟩
  · cases h
    refine ⟨fun h => absurd h (by decide), fun h => absurd h (by decide), fun h => absurd h (by decide), fun h => absurd h (by decide), fun h => absurd h (by decide), fun _ M' hM' => ?_⟩
    obtain rfl : mX23_kindIn = M' := Option.some.inj ((show ab_gM (hb_Gx O X) 5974 = some mX23_kindIn from rfl).symm.trans hM')
    exact ⟨fun _ => (hb_w13 157 (by decide +kernel)), ca_mX23_kindIn.1, ca_mX23_kindIn.2, fun h => absurd h (by decide), fun _ => ct_mX23_kindIn, fun h => absurd h (by decide), fun h => absurd h (by decide)⟩
  · cases h
    refine ⟨fun h => absurd h (by decide), fun h => absurd h (by decide), fun h => absurd h (by decide), fun h => absurd h (by decide), fun h => absurd h (by decide), fun _ M' hM' => ?_⟩
    obtain rfl : mX23_chained = M' := Option.some.inj ((show ab_gM (hb_Gx O X) 5978 = some mX23_chained from rfl).symm.trans hM')
    exact ⟨fun _ => (hb_w13 160 (by decide +kernel)), ca_mX23_chained.1, ca_mX23_chained.2, fun _ => ⟨ci_mX23_chained, cs_mX23_chained, _, rfl, rfl⟩, fun h => absurd h (by decide), fun h => absurd h (by decide), fun h => absurd h (by decide)⟩
  · cases h
    exact ⟨fun h => absurd h (by decide), fun h => absurd h (by decide), fun h => absurd h (by decide), fun h => absurd h (by decide), fun h => absurd h (by decide), fun _ M' hM' => by cases (show ab_gM (hb_Gx O X) 6089 = none from rfl).symm.trans hM'⟩
  · cases h
    refine ⟨fun h => absurd h (by decide), fun h => absurd h (by decide), fun h => absurd h (by decide), fun h => absurd h (by decide), fun h => absurd h (by decide), fun _ M' hM' => ?_⟩
    obtain rfl : mX23_further = M' := Option.some.inj ((show ab_gM (hb_Gx O X) 5980 = some mX23_further from rfl).symm.trans hM')
    exact ⟨fun _ => (hb_w13 212 (by decide +kernel)), ca_mX23_further.1, ca_mX23_further.2, fun _ => ⟨ci_mX23_further, cs_mX23_further, _, rfl, rfl⟩, fun h => absurd h (by decide), fun h => absurd h (by decide), fun h => absurd h (by decide)⟩
  · cases h
    refine ⟨fun h => absurd h (by decide), fun h => absurd h (by decide), fun h => absurd h (by decide), fun h => absurd h (by decide), fun h => absurd h (by decide), fun _ M' hM' => ?_⟩
    obtain rfl : mX23_fault = M' := Option.some.inj ((show ab_gM (hb_Gx O X) 5975 = some mX23_fault from rfl).symm.trans hM')
    exact ⟨fun _ => (hb_w13 164 (by decide +kernel)), ca_mX23_fault.1, ca_mX23_fault.2, fun _ => ⟨ci_mX23_fault, cs_mX23_fault, _, rfl, rfl⟩, fun h => absurd h (by decide), fun h => absurd h (by decide), fun h => absurd h (by decide)⟩
  · cases h
    refine ⟨fun h => absurd h (by decide), fun h => absurd h (by decide), fun h => absurd h (by decide), fun h => absurd h (by decide), fun h => absurd h (by decide), fun _ M' hM' => ?_⟩
    obtain rfl : mX23_looks = M' := Option.some.inj ((show ab_gM (hb_Gx O X) 5964 = some mX23_looks from rfl).symm.trans hM')
    exact ⟨fun _ => (hb_w13 172 (by decide +kernel)), ca_mX23_looks.1, ca_mX23_looks.2, fun _ => ⟨ci_mX23_looks, cs_mX23_looks, _, rfl, rfl⟩, fun h => absurd h (by decide), fun h => absurd h (by decide), fun h => absurd h (by decide)⟩
  · cases h
    refine ⟨fun h => absurd h (by decide), fun h => absurd h (by decide), fun h => absurd h (by decide), fun h => absurd h (by decide), fun h => absurd h (by decide), fun _ M' hM' => ?_⟩
    obtain rfl : mX23_choose = M' := Option.some.inj ((show ab_gM (hb_Gx O X) 5979 = some mX23_choose from rfl).symm.trans hM')
    exact ⟨fun _ => (hb_w13 176 (by decide +kernel)), ca_mX23_choose.1, ca_mX23_choose.2, fun _ => ⟨ci_mX23_choose, cs_mX23_choose, _, rfl, rfl⟩, fun h => absurd h (by decide), fun h => absurd h (by decide), fun h => absurd h (by decide)⟩
  · cases h
    exact ⟨fun h => absurd h (by decide), fun h => absurd h (by decide), fun h => absurd h (by decide), fun h => absurd h (by decide), fun h => absurd h (by decide), fun _ M' hM' => by cases (show ab_gM (hb_Gx O X) 6090 = none from rfl).symm.trans hM'⟩
  · cases h
    refine ⟨fun h => absurd h (by decide), fun h => absurd h (by decide), fun h => absurd h (by decide), fun h => absurd h (by decide), fun h => absurd h (by decide), fun _ M' hM' => ?_⟩
    obtain rfl : mX23_inside = M' := Option.some.inj ((show ab_gM (hb_Gx O X) 5981 = some mX23_inside from rfl).symm.trans hM')
    exact ⟨fun _ => (hb_w13 203 (by decide +kernel)), ca_mX23_inside.1, ca_mX23_inside.2, fun _ => ⟨ci_mX23_inside, cs_mX23_inside, _, rfl, rfl⟩, fun h => absurd h (by decide), fun h => absurd h (by decide), fun h => absurd h (by decide)⟩
  · cases h
    refine ⟨fun h => absurd h (by decide), fun h => absurd h (by decide), fun h => absurd h (by decide), fun h => absurd h (by decide), fun h => absurd h (by decide), fun _ M' hM' => ?_⟩
    obtain rfl : mX23_has = M' := Option.some.inj ((show ab_gM (hb_Gx O X) 5937 = some mX23_has from rfl).symm.trans hM')
    exact ⟨fun _ => (hb_w13 100 (by decide +kernel)), ca_mX23_has.1, ca_mX23_has.2, fun h => absurd h (by decide), fun _ => ct_mX23_has, fun h => absurd h (by decide), fun h => absurd h (by decide)⟩
  · cases h
    refine ⟨fun h => absurd h (by decide), fun h => absurd h (by decide), fun h => absurd h (by decide), fun h => absurd h (by decide), fun h => absurd h (by decide), fun _ M' hM' => ?_⟩
    obtain rfl : mX23_fits = M' := Option.some.inj ((show ab_gM (hb_Gx O X) 5939 = some mX23_fits from rfl).symm.trans hM')
    exact ⟨fun _ => (hb_w12 228 (by decide +kernel)), ca_mX23_fits.1, ca_mX23_fits.2, fun _ => ⟨ci_mX23_fits, cs_mX23_fits, _, rfl, rfl⟩, fun h => absurd h (by decide), fun h => absurd h (by decide), fun h => absurd h (by decide)⟩
  · cases h
    refine ⟨fun h => absurd h (by decide), fun h => absurd h (by decide), fun h => absurd h (by decide), fun h => absurd h (by decide), fun h => absurd h (by decide), fun _ M' hM' => ?_⟩
    obtain rfl : mX23_applies = M' := Option.some.inj ((show ab_gM (hb_Gx O X) 5968 = some mX23_applies from rfl).symm.trans hM')
    exact ⟨fun _ => (hb_w13 180 (by decide +kernel)), ca_mX23_applies.1, ca_mX23_applies.2, fun _ => ⟨ci_mX23_applies, cs_mX23_applies, _, rfl, rfl⟩, fun h => absurd h (by decide), fun h => absurd h (by decide), fun h => absurd h (by decide)⟩
  · cases h
    refine ⟨fun h => absurd h (by decide), fun h => absurd h (by decide), fun h => absurd h (by decide), fun h => absurd h (by decide), fun h => absurd h (by decide), fun _ M' hM' => ?_⟩
    obtain rfl : mX23_chooseRow = M' := Option.some.inj ((show ab_gM (hb_Gx O X) 5972 = some mX23_chooseRow from rfl).symm.trans hM')
    exact ⟨fun _ => (hb_w13 194 (by decide +kernel)), ca_mX23_chooseRow.1, ca_mX23_chooseRow.2, fun _ => ⟨ci_mX23_chooseRow, cs_mX23_chooseRow, _, rfl, rfl⟩, fun h => absurd h (by decide), fun h => absurd h (by decide), fun h => absurd h (by decide)⟩
  · cases h
    refine ⟨fun h => absurd h (by decide), fun h => absurd h (by decide), fun h => absurd h (by decide), fun h => absurd h (by decide), fun h => absurd h (by decide), fun _ M' hM' => ?_⟩
    obtain rfl : mX23_joined_ = M' := Option.some.inj ((show ab_gM (hb_Gx O X) 5982 = some mX23_joined_ from rfl).symm.trans hM')
    exact ⟨fun _ => (hb_w13 207 (by decide +kernel)), ca_mX23_joined_.1, ca_mX23_joined_.2, fun _ => ⟨ci_mX23_joined_, cs_mX23_joined_, _, rfl, rfl⟩, fun h => absurd h (by decide), fun h => absurd h (by decide), fun h => absurd h (by decide)⟩
  · cases h
    exact ⟨fun h => absurd h (by decide), fun h => absurd h (by decide), fun h => absurd h (by decide), fun _ => ⟨(hb_w13 211 (by decide +kernel)), ca_m8⟩, fun h => absurd h (by decide), fun h => absurd h (by decide)⟩
  · cases h
    refine ⟨fun h => absurd h (by decide), fun h => absurd h (by decide), fun h => absurd h (by decide), fun h => absurd h (by decide), fun h => absurd h (by decide), fun _ M' hM' => ?_⟩
    obtain rfl : mX23_cells = M' := Option.some.inj ((show ab_gM (hb_Gx O X) 5958 = some mX23_cells from rfl).symm.trans hM')
    exact ⟨fun _ => (hb_w13 69 (by decide +kernel)), ca_mX23_cells.1, ca_mX23_cells.2, fun _ => ⟨ci_mX23_cells, cs_mX23_cells, _, rfl, rfl⟩, fun h => absurd h (by decide), fun h => absurd h (by decide), fun h => absurd h (by decide)⟩
  · cases h
    refine ⟨fun h => absurd h (by decide), fun h => absurd h (by decide), fun h => absurd h (by decide), fun h => absurd h (by decide), fun h => absurd h (by decide), fun _ M' hM' => ?_⟩
    obtain rfl : mX23_collect = M' := Option.some.inj ((show ab_gM (hb_Gx O X) 5984 = some mX23_collect from rfl).symm.trans hM')
    exact ⟨fun _ => (hb_w13 96 (by decide +kernel)), ca_mX23_collect.1, ca_mX23_collect.2, fun _ => ⟨ci_mX23_collect, cs_mX23_collect, _, rfl, rfl⟩, fun h => absurd h (by decide), fun h => absurd h (by decide), fun h => absurd h (by decide)⟩
  · cases h
    refine ⟨fun h => absurd h (by decide), fun h => absurd h (by decide), fun h => absurd h (by decide), fun h => absurd h (by decide), fun h => absurd h (by decide), fun _ M' hM' => ?_⟩
    obtain rfl : mX23_bad = M' := Option.some.inj ((show ab_gM (hb_Gx O X) 5985 = some mX23_bad from rfl).symm.trans hM')
    exact ⟨fun _ => (hb_w13 107 (by decide +kernel)), ca_mX23_bad.1, ca_mX23_bad.2, fun _ => ⟨ci_mX23_bad, cs_mX23_bad, _, rfl, rfl⟩, fun h => absurd h (by decide), fun h => absurd h (by decide), fun h => absurd h (by decide)⟩
  · cases h
    refine ⟨fun h => absurd h (by decide), fun h => absurd h (by decide), fun h => absurd h (by decide), fun h => absurd h (by decide), fun h => absurd h (by decide), fun _ M' hM' => ?_⟩
    obtain rfl : mX18_asks = M' := Option.some.inj ((show ab_gM (hb_Gx O X) 4609 = some mX18_asks from rfl).symm.trans hM')
    exact ⟨fun _ => (hb_w13 103 (by decide +kernel)), ca_mX18_asks.1, ca_mX18_asks.2, fun _ => ⟨ci_mX18_asks, cs_mX18_asks, _, rfl, rfl⟩, fun h => absurd h (by decide), fun h => absurd h (by decide), fun h => absurd h (by decide)⟩
  · cases h
    refine ⟨fun h => absurd h (by decide), fun h => absurd h (by decide), fun h => absurd h (by decide), fun h => absurd h (by decide), fun h => absurd h (by decide), fun _ M' hM' => ?_⟩
    obtain rfl : mX23_lookAt = M' := Option.some.inj ((show ab_gM (hb_Gx O X) 5986 = some mX23_lookAt from rfl).symm.trans hM')
    exact ⟨fun _ => (hb_w13 111 (by decide +kernel)), ca_mX23_lookAt.1, ca_mX23_lookAt.2, fun _ => ⟨ci_mX23_lookAt, cs_mX23_lookAt, _, rfl, rfl⟩, fun h => absurd h (by decide), fun h => absurd h (by decide), fun h => absurd h (by decide)⟩
  · cases h
    refine ⟨fun h => absurd h (by decide), fun h => absurd h (by decide), fun h => absurd h (by decide), fun h => absurd h (by decide), fun h => absurd h (by decide), fun _ M' hM' => ?_⟩
    obtain rfl : mX23_isSeveral = M' := Option.some.inj ((show ab_gM (hb_Gx O X) 5988 = some mX23_isSeveral from rfl).symm.trans hM')
    exact ⟨fun _ => (hb_w13 118 (by decide +kernel)), ca_mX23_isSeveral.1, ca_mX23_isSeveral.2, fun _ => ⟨ci_mX23_isSeveral, cs_mX23_isSeveral, _, rfl, rfl⟩, fun h => absurd h (by decide), fun h => absurd h (by decide), fun h => absurd h (by decide)⟩
  · cases h
    refine ⟨fun h => absurd h (by decide), fun h => absurd h (by decide), fun h => absurd h (by decide), fun h => absurd h (by decide), fun h => absurd h (by decide), fun _ M' hM' => ?_⟩
    obtain rfl : mX23_asksKinds = M' := Option.some.inj ((show ab_gM (hb_Gx O X) 5987 = some mX23_asksKinds from rfl).symm.trans hM')
    exact ⟨fun _ => (hb_w13 115 (by decide +kernel)), ca_mX23_asksKinds.1, ca_mX23_asksKinds.2, fun h => absurd h (by decide), fun _ => ct_mX23_asksKinds, fun h => absurd h (by decide), fun h => absurd h (by decide)⟩
  · cases h
    exact ⟨fun _ => ⟨(hb_w8 106 (by decide +kernel)), ca_obj.1, ca_obj.2⟩, fun h => absurd h (by decide), fun h => absurd h (by decide), fun h => absurd h (by decide), fun h => absurd h (by decide), fun h => absurd h (by decide)⟩
  · cases h
    refine ⟨fun h => absurd h (by decide), fun h => absurd h (by decide), fun h => absurd h (by decide), fun h => absurd h (by decide), fun h => absurd h (by decide), fun _ M' hM' => ?_⟩
    obtain rfl : mX21_init = M' := Option.some.inj ((show ab_gM (hb_Gx O X) 5376 = some mX21_init from rfl).symm.trans hM')
    exact ⟨fun h => absurd rfl h, ca_mX21_init.1, ca_mX21_init.2, fun h => absurd h (by decide), fun h => absurd h (by decide), fun h => absurd h (by decide), fun _ => ⟨rfl, ci_mX21_init, rfl⟩⟩
  · cases h
    refine ⟨fun h => absurd h (by decide), fun h => absurd h (by decide), fun h => absurd h (by decide), fun h => absurd h (by decide), fun h => absurd h (by decide), fun _ M' hM' => ?_⟩
    obtain rfl : mX17_init = M' := Option.some.inj ((show ab_gM (hb_Gx O X) 4352 = some mX17_init from rfl).symm.trans hM')
    exact ⟨fun h => absurd rfl h, ca_mX17_init.1, ca_mX17_init.2, fun h => absurd h (by decide), fun h => absurd h (by decide), fun h => absurd h (by decide), fun _ => ⟨rfl, ci_mX17_init, rfl⟩⟩
  · cases h
    refine ⟨fun h => absurd h (by decide), fun h => absurd h (by decide), fun h => absurd h (by decide), fun h => absurd h (by decide), fun h => absurd h (by decide), fun _ M' hM' => ?_⟩
    obtain rfl : mX13_init = M' := Option.some.inj ((show ab_gM (hb_Gx O X) 3328 = some mX13_init from rfl).symm.trans hM')
    exact ⟨fun h => absurd rfl h, ca_mX13_init.1, ca_mX13_init.2, fun h => absurd h (by decide), fun h => absurd h (by decide), fun h => absurd h (by decide), fun _ => ⟨rfl, ci_mX13_init, rfl⟩⟩
  · cases h
    refine ⟨fun h => absurd h (by decide), fun h => absurd h (by decide), fun h => absurd h (by decide), fun h => absurd h (by decide), fun h => absurd h (by decide), fun _ M' hM' => ?_⟩
    obtain rfl : mX18_init = M' := Option.some.inj ((show ab_gM (hb_Gx O X) 4608 = some mX18_init from rfl).symm.trans hM')
    exact ⟨fun h => absurd rfl h, ca_mX18_init.1, ca_mX18_init.2, fun h => absurd h (by decide), fun h => absurd h (by decide), fun h => absurd h (by decide), fun _ => ⟨rfl, ci_mX18_init, rfl⟩⟩
  · cases h
    refine ⟨fun h => absurd h (by decide), fun h => absurd h (by decide), fun h => absurd h (by decide), fun h => absurd h (by decide), fun h => absurd h (by decide), fun _ M' hM' => ?_⟩
    obtain rfl : mX16_init = M' := Option.some.inj ((show ab_gM (hb_Gx O X) 4096 = some mX16_init from rfl).symm.trans hM')
    exact ⟨fun _ => (hb_w9 43 (by decide +kernel)), ca_mX16_init.1, ca_mX16_init.2, fun h => absurd h (by decide), fun h => absurd h (by decide), fun h => absurd h (by decide), fun _ => ⟨rfl, ci_mX16_init, rfl⟩⟩
  · cases h
    refine ⟨fun h => absurd h (by decide), fun h => absurd h (by decide), fun h => absurd h (by decide), fun h => absurd h (by decide), fun h => absurd h (by decide), fun _ M' hM' => ?_⟩
    obtain rfl : mX15_init = M' := Option.some.inj ((show ab_gM (hb_Gx O X) 3840 = some mX15_init from rfl).symm.trans hM')
    exact ⟨fun _ => (hb_w9 66 (by decide +kernel)), ca_mX15_init.1, ca_mX15_init.2, fun h => absurd h (by decide), fun h => absurd h (by decide), fun h => absurd h (by decide), fun _ => ⟨rfl, ci_mX15_init, rfl⟩⟩
  · cases h
    refine ⟨fun h => absurd h (by decide), fun h => absurd h (by decide), fun h => absurd h (by decide), fun h => absurd h (by decide), fun h => absurd h (by decide), fun _ M' hM' => ?_⟩
    obtain rfl : mX19_init = M' := Option.some.inj ((show ab_gM (hb_Gx O X) 4864 = some mX19_init from rfl).symm.trans hM')
    exact ⟨fun h => absurd rfl h, ca_mX19_init.1, ca_mX19_init.2, fun h => absurd h (by decide), fun h => absurd h (by decide), fun h => absurd h (by decide), fun _ => ⟨rfl, ci_mX19_init, rfl⟩⟩
  · cases h
    refine ⟨fun h => absurd h (by decide), fun h => absurd h (by decide), fun h => absurd h (by decide), fun h => absurd h (by decide), fun h => absurd h (by decide), fun _ M' hM' => ?_⟩
    obtain rfl : mX14_init = M' := Option.some.inj ((show ab_gM (hb_Gx O X) 3584 = some mX14_init from rfl).symm.trans hM')
    exact ⟨fun h => absurd rfl h, ca_mX14_init.1, ca_mX14_init.2, fun h => absurd h (by decide), fun h => absurd h (by decide), fun h => absurd h (by decide), fun _ => ⟨rfl, ci_mX14_init, rfl⟩⟩
  · cases h
    refine ⟨fun h => absurd h (by decide), fun h => absurd h (by decide), fun h => absurd h (by decide), fun h => absurd h (by decide), fun h => absurd h (by decide), fun _ M' hM' => ?_⟩
    obtain rfl : mX23_beginning = M' := Option.some.inj ((show ab_gM (hb_Gx O X) 5990 = some mX23_beginning from rfl).symm.trans hM')
    exact ⟨fun _ => (hb_w9 95 (by decide +kernel)), ca_mX23_beginning.1, ca_mX23_beginning.2, fun _ => ⟨ci_mX23_beginning, cs_mX23_beginning, _, rfl, rfl⟩, fun h => absurd h (by decide), fun h => absurd h (by decide), fun h => absurd h (by decide)⟩
  · cases h
    refine ⟨fun h => absurd h (by decide), fun h => absurd h (by decide), fun h => absurd h (by decide), fun h => absurd h (by decide), fun h => absurd h (by decide), fun _ M' hM' => ?_⟩
    obtain rfl : mX23_tellKind = M' := Option.some.inj ((show ab_gM (hb_Gx O X) 5991 = some mX23_tellKind from rfl).symm.trans hM')
    exact ⟨fun _ => (hb_w9 100 (by decide +kernel)), ca_mX23_tellKind.1, ca_mX23_tellKind.2, fun _ => ⟨ci_mX23_tellKind, cs_mX23_tellKind, _, rfl, rfl⟩, fun h => absurd h (by decide), fun h => absurd h (by decide), fun h => absurd h (by decide)⟩
  · cases h
    refine ⟨fun h => absurd h (by decide), fun h => absurd h (by decide), fun h => absurd h (by decide), fun h => absurd h (by decide), fun h => absurd h (by decide), fun _ M' hM' => ?_⟩
    obtain rfl : mX23_rebuild = M' := Option.some.inj ((show ab_gM (hb_Gx O X) 5938 = some mX23_rebuild from rfl).symm.trans hM')
    exact ⟨fun _ => (hb_w9 124 (by decide +kernel)), ca_mX23_rebuild.1, ca_mX23_rebuild.2, fun _ => ⟨ci_mX23_rebuild, cs_mX23_rebuild, _, rfl, rfl⟩, fun h => absurd h (by decide), fun h => absurd h (by decide), fun h => absurd h (by decide)⟩
  · cases h
    refine ⟨fun h => absurd h (by decide), fun h => absurd h (by decide), fun h => absurd h (by decide), fun h => absurd h (by decide), fun h => absurd h (by decide), fun _ M' hM' => ?_⟩
    obtain rfl : mX19_be_ = M' := Option.some.inj ((show ab_gM (hb_Gx O X) 4866 = some mX19_be_ from rfl).symm.trans hM')
    exact ⟨fun _ => (hb_w9 104 (by decide +kernel)), ca_mX19_be_.1, ca_mX19_be_.2, fun _ => ⟨ci_mX19_be_, cs_mX19_be_, _, rfl, rfl⟩, fun h => absurd h (by decide), fun h => absurd h (by decide), fun h => absurd h (by decide)⟩
  · cases h
    refine ⟨fun h => absurd h (by decide), fun h => absurd h (by decide), fun h => absurd h (by decide), fun h => absurd h (by decide), fun h => absurd h (by decide), fun _ M' hM' => ?_⟩
    obtain rfl : mX23_no_ = M' := Option.some.inj ((show ab_gM (hb_Gx O X) 5993 = some mX23_no_ from rfl).symm.trans hM')
    exact ⟨fun _ => (hb_w11 14 (by decide +kernel)), ca_mX23_no_.1, ca_mX23_no_.2, fun _ => ⟨ci_mX23_no_, cs_mX23_no_, _, rfl, rfl⟩, fun h => absurd h (by decide), fun h => absurd h (by decide), fun h => absurd h (by decide)⟩
  · cases h
    refine ⟨fun h => absurd h (by decide), fun h => absurd h (by decide), fun h => absurd h (by decide), fun h => absurd h (by decide), fun h => absurd h (by decide), fun _ M' hM' => ?_⟩
    obtain rfl : mX23_word_ = M' := Option.some.inj ((show ab_gM (hb_Gx O X) 5995 = some mX23_word_ from rfl).symm.trans hM')
    exact ⟨fun _ => (hb_w11 18 (by decide +kernel)), ca_mX23_word_.1, ca_mX23_word_.2, fun _ => ⟨ci_mX23_word_, cs_mX23_word_, _, rfl, rfl⟩, fun h => absurd h (by decide), fun h => absurd h (by decide), fun h => absurd h (by decide)⟩
  · cases h
    refine ⟨fun h => absurd h (by decide), fun h => absurd h (by decide), fun h => absurd h (by decide), fun h => absurd h (by decide), fun h => absurd h (by decide), fun _ M' hM' => ?_⟩
    obtain rfl : mX23_readText = M' := Option.some.inj ((show ab_gM (hb_Gx O X) 5913 = some mX23_readText from rfl).symm.trans hM')
    exact ⟨fun _ => (hb_w11 31 (by decide +kernel)), ca_mX23_readText.1, ca_mX23_readText.2, fun _ => ⟨ci_mX23_readText, cs_mX23_readText, _, rfl, rfl⟩, fun h => absurd h (by decide), fun h => absurd h (by decide), fun h => absurd h (by decide)⟩
  · cases h
    refine ⟨fun h => absurd h (by decide), fun h => absurd h (by decide), fun h => absurd h (by decide), fun h => absurd h (by decide), fun h => absurd h (by decide), fun _ M' hM' => ?_⟩
    obtain rfl : mX23_isKind = M' := Option.some.inj ((show ab_gM (hb_Gx O X) 6001 = some mX23_isKind from rfl).symm.trans hM')
    exact ⟨fun _ => (hb_w12 216 (by decide +kernel)), ca_mX23_isKind.1, ca_mX23_isKind.2, fun _ => ⟨ci_mX23_isKind, cs_mX23_isKind, _, rfl, rfl⟩, fun h => absurd h (by decide), fun h => absurd h (by decide), fun h => absurd h (by decide)⟩
  · cases h
    refine ⟨fun h => absurd h (by decide), fun h => absurd h (by decide), fun h => absurd h (by decide), fun h => absurd h (by decide), fun h => absurd h (by decide), fun _ M' hM' => ?_⟩
    obtain rfl : mX23_lists = M' := Option.some.inj ((show ab_gM (hb_Gx O X) 5957 = some mX23_lists from rfl).symm.trans hM')
    exact ⟨fun _ => (hb_w13 46 (by decide +kernel)), ca_mX23_lists.1, ca_mX23_lists.2, fun _ => ⟨ci_mX23_lists, cs_mX23_lists, _, rfl, rfl⟩, fun h => absurd h (by decide), fun h => absurd h (by decide), fun h => absurd h (by decide)⟩
  · cases h
    refine ⟨fun h => absurd h (by decide), fun h => absurd h (by decide), fun h => absurd h (by decide), fun h => absurd h (by decide), fun h => absurd h (by decide), fun _ M' hM' => ?_⟩
    obtain rfl : mX23_judge = M' := Option.some.inj ((show ab_gM (hb_Gx O X) 5983 = some mX23_judge from rfl).symm.trans hM')
    exact ⟨fun _ => (hb_w13 92 (by decide +kernel)), ca_mX23_judge.1, ca_mX23_judge.2, fun _ => ⟨ci_mX23_judge, cs_mX23_judge, _, rfl, rfl⟩, fun h => absurd h (by decide), fun h => absurd h (by decide), fun h => absurd h (by decide)⟩
  · cases h
    exact ⟨fun h => absurd h (by decide), fun h => absurd h (by decide), fun h => absurd h (by decide), fun h => absurd h (by decide), fun h => absurd h (by decide), fun _ M' hM' => by cases (show ab_gM (hb_Gx O X) 6091 = none from rfl).symm.trans hM'⟩
  · cases h
theorem hb_T31_ok (O : Nat → Option FieldType) (X : ab_X) : ∀ (ix sort y na ci : Nat), hb_T31 ix = some (sort, y, na, ci) → ∀ M : ab_MI, ab_mo M = 31 → (ab_my M).cls = RJ11 →
    (sort = 4 → Cond.methodLink (ab_my M).cls ix objectInit ∈ hb_TB ∧ Cond.instanceMethod objectInit ∈ hb_TB ∧ Cond.code objectInit ⟨#[0xb1]⟩ 1 none ∈ hb_TB) ∧
    (sort = 5 → Cond.methodLink (ab_my M).cls ix arraycopyName ∈ hb_TB ∧ Cond.native arraycopyName ∈ hb_TB ∧ Cond.static arraycopyName ∈ hb_TB ∧ Cond.initialized "java/lang/System" ∈ hb_TB) ∧
    (sort = 7 → Cond.methodLink (ab_my M).cls ix Lib.Math.max.name ∈ hb_TB ∧ Cond.static Lib.Math.max.name ∈ hb_TB ∧ Cond.initialized "java/lang/Math" ∈ hb_TB ∧ Cond.code Lib.Math.max.name Lib.Math.max.code 2 (some .int) ∈ hb_TB) ∧
    (sort = 8 → Cond.methodLink (ab_my M).cls ix Lib.Math.min.name ∈ hb_TB ∧ Cond.static Lib.Math.min.name ∈ hb_TB ∧ Cond.initialized "java/lang/Math" ∈ hb_TB ∧ Cond.code Lib.Math.min.name Lib.Math.min.code 2 (some .int) ∈ hb_TB) ∧
    (sort = 9 → Cond.methodLink (ab_my M).cls ix Lib.MathLoose.min_long.x ∈ hb_TB ∧ Cond.static Lib.MathLoose.min_long.x ∈ hb_TB ∧ Cond.initialized "java/lang/Math" ∈ hb_TB ∧ Cond.code Lib.MathLoose.min_long.x Lib.MathLoose.min_long.code 4 (some .long) ∈ hb_TB) ∧
    (sort < 4 ∨ sort = 6 → ∀ M' : ab_MI, ab_gM (hb_Gx O X) y = some M' → (sort ≠ 3 → Cond.methodLink (ab_my M).cls ix (ab_my M') ∈ hb_TB) ∧ Cond.initialized (ab_my M').cls ∈ hb_TB ∧ ((ab_my M').cls ≠ "java/lang/invoke/MethodHandle" ∧ (ab_my M').cls ≠ "java/lang/invoke/VarHandle" ∧ (parseMethodDescriptor (ab_my M').desc).map (fun d => d.parameters.length) = some na) ∧
      (sort = 0 → Cond.instanceMethod (ab_my M') ∈ hb_TB ∧ Cond.selects (ab_my M').cls (ab_my M') (ab_my M') ∈ hb_TB ∧ ∃ q : vw_C, (ab_gK (hb_Gx O X))[ci]? = some q ∧ q.1 = (ab_my M').cls) ∧
      (sort = 1 → Cond.static (ab_my M') ∈ hb_TB) ∧
      (sort = 6 → Cond.instanceMethod (ab_my M') ∈ hb_TB ∧ Cond.selects (ab_my M').cls (ab_my M') (ab_my M') ∈ hb_TB ∧ (ab_my M').cls = "java/lang/String") ∧
      (sort = 2 ∨ sort = 3 → (ab_my M').name = "<init>" ∧ Cond.instanceMethod (ab_my M') ∈ hb_TB ∧ ab_mr M' = none)) := by
  intro ix sort y na ci h M _ hcl
  rw [hcl]
  unfold hb_T31 at h
  split at h
  · cases h
theorem hb_T33_ok (O : Nat → Option FieldType) (X : ab_X) : ∀ (ix sort y na ci : Nat), hb_T33 ix = some (sort, y, na, ci) → ∀ M : ab_MI, ab_mo M = 33 → (ab_my M).cls = RJ6 →
    (sort = 4 → Cond.methodLink (ab_my M).cls ix objectInit ∈ hb_TB ∧ Cond.instanceMethod objectInit ∈ hb_TB ∧ Cond.code objectInit ⟨#[0xb1]⟩ 1 none ∈ hb_TB) ∧
    (sort = 5 → Cond.methodLink (ab_my M).cls ix arraycopyName ∈ hb_TB ∧ Cond.native arraycopyName ∈ hb_TB ∧ Cond.static arraycopyName ∈ hb_TB ∧ Cond.initialized "java/lang/System" ∈ hb_TB) ∧
    (sort = 7 → Cond.methodLink (ab_my M).cls ix Lib.Math.max.name ∈ hb_TB ∧ Cond.static Lib.Math.max.name ∈ hb_TB ∧ Cond.initialized "java/lang/Math" ∈ hb_TB ∧ Cond.code Lib.Math.max.name Lib.Math.max.code 2 (some .int) ∈ hb_TB) ∧
    (sort = 8 → Cond.methodLink (ab_my M).cls ix Lib.Math.min.name ∈ hb_TB ∧ Cond.static Lib.Math.min.name ∈ hb_TB ∧ Cond.initialized "java/lang/Math" ∈ hb_TB ∧ Cond.code Lib.Math.min.name Lib.Math.min.code 2 (some .int) ∈ hb_TB) ∧
    (sort = 9 → Cond.methodLink (ab_my M).cls ix Lib.MathLoose.min_long.x ∈ hb_TB ∧ Cond.static Lib.MathLoose.min_long.x ∈ hb_TB ∧ Cond.initialized "java/lang/Math" ∈ hb_TB ∧ Cond.code Lib.MathLoose.min_long.x Lib.MathLoose.min_long.code 4 (some .long) ∈ hb_TB) ∧
    (sort < 4 ∨ sort = 6 → ∀ M' : ab_MI, ab_gM (hb_Gx O X) y = some M' → (sort ≠ 3 → Cond.methodLink (ab_my M).cls ix (ab_my M') ∈ hb_TB) ∧ Cond.initialized (ab_my M').cls ∈ hb_TB ∧ ((ab_my M').cls ≠ "java/lang/invoke/MethodHandle" ∧ (ab_my M').cls ≠ "java/lang/invoke/VarHandle" ∧ (parseMethodDescriptor (ab_my M').desc).map (fun d => d.parameters.length) = some na) ∧
      (sort = 0 → Cond.instanceMethod (ab_my M') ∈ hb_TB ∧ Cond.selects (ab_my M').cls (ab_my M') (ab_my M') ∈ hb_TB ∧ ∃ q : vw_C, (ab_gK (hb_Gx O X))[ci]? = some q ∧ q.1 = (ab_my M').cls) ∧
      (sort = 1 → Cond.static (ab_my M') ∈ hb_TB) ∧
      (sort = 6 → Cond.instanceMethod (ab_my M') ∈ hb_TB ∧ Cond.selects (ab_my M').cls (ab_my M') (ab_my M') ∈ hb_TB ∧ (ab_my M').cls = "java/lang/String") ∧
      (sort = 2 ∨ sort = 3 → (ab_my M').name = "<init>" ∧ Cond.instanceMethod (ab_my M') ∈ hb_TB ∧ ab_mr M' = none)) := by
  intro ix sort y na ci h M _ hcl
  rw [hcl]
  unfold hb_T33 at h
  split at h
  · cases h
theorem hb_T35_ok (O : Nat → Option FieldType) (X : ab_X) : ∀ (ix sort y na ci : Nat), hb_T35 ix = some (sort, y, na, ci) → ∀ M : ab_MI, ab_mo M = 35 → (ab_my M).cls = RJ13 →
    (sort = 4 → Cond.methodLink (ab_my M).cls ix objectInit ∈ hb_TB ∧ Cond.instanceMethod objectInit ∈ hb_TB ∧ Cond.code objectInit ⟨#[0xb1]⟩ 1 none ∈ hb_TB) ∧
    (sort = 5 → Cond.methodLink (ab_my M).cls ix arraycopyName ∈ hb_TB ∧ Cond.native arraycopyName ∈ hb_TB ∧ Cond.static arraycopyName ∈ hb_TB ∧ Cond.initialized "java/lang/System" ∈ hb_TB) ∧
    (sort = 7 → Cond.methodLink (ab_my M).cls ix Lib.Math.max.name ∈ hb_TB ∧ Cond.static Lib.Math.max.name ∈ hb_TB ∧ Cond.initialized "java/lang/Math" ∈ hb_TB ∧ Cond.code Lib.Math.max.name Lib.Math.max.code 2 (some .int) ∈ hb_TB) ∧
    (sort = 8 → Cond.methodLink (ab_my M).cls ix Lib.Math.min.name ∈ hb_TB ∧ Cond.static Lib.Math.min.name ∈ hb_TB ∧ Cond.initialized "java/lang/Math" ∈ hb_TB ∧ Cond.code Lib.Math.min.name Lib.Math.min.code 2 (some .int) ∈ hb_TB) ∧
    (sort = 9 → Cond.methodLink (ab_my M).cls ix Lib.MathLoose.min_long.x ∈ hb_TB ∧ Cond.static Lib.MathLoose.min_long.x ∈ hb_TB ∧ Cond.initialized "java/lang/Math" ∈ hb_TB ∧ Cond.code Lib.MathLoose.min_long.x Lib.MathLoose.min_long.code 4 (some .long) ∈ hb_TB) ∧
    (sort < 4 ∨ sort = 6 → ∀ M' : ab_MI, ab_gM (hb_Gx O X) y = some M' → (sort ≠ 3 → Cond.methodLink (ab_my M).cls ix (ab_my M') ∈ hb_TB) ∧ Cond.initialized (ab_my M').cls ∈ hb_TB ∧ ((ab_my M').cls ≠ "java/lang/invoke/MethodHandle" ∧ (ab_my M').cls ≠ "java/lang/invoke/VarHandle" ∧ (parseMethodDescriptor (ab_my M').desc).map (fun d => d.parameters.length) = some na) ∧
      (sort = 0 → Cond.instanceMethod (ab_my M') ∈ hb_TB ∧ Cond.selects (ab_my M').cls (ab_my M') (ab_my M') ∈ hb_TB ∧ ∃ q : vw_C, (ab_gK (hb_Gx O X))[ci]? = some q ∧ q.1 = (ab_my M').cls) ∧
      (sort = 1 → Cond.static (ab_my M') ∈ hb_TB) ∧
      (sort = 6 → Cond.instanceMethod (ab_my M') ∈ hb_TB ∧ Cond.selects (ab_my M').cls (ab_my M') (ab_my M') ∈ hb_TB ∧ (ab_my M').cls = "java/lang/String") ∧
      (sort = 2 ∨ sort = 3 → (ab_my M').name = "<init>" ∧ Cond.instanceMethod (ab_my M') ∈ hb_TB ∧ ab_mr M' = none)) := by
  intro ix sort y na ci h M _ hcl
  rw [hcl]
  unfold hb_T35 at h
  split at h
  · cases h
    refine ⟨fun h => absurd h (by decide), fun h => absurd h (by decide), fun h => absurd h (by decide), fun h => absurd h (by decide), fun h => absurd h (by decide), fun _ M' hM' => ?_⟩
    obtain rfl : mJ6_numberOfTrailingZeros_0f7a4 = M' := Option.some.inj ((show ab_gM (hb_Gx O X) 8449 = some mJ6_numberOfTrailingZeros_0f7a4 from rfl).symm.trans hM')
    exact ⟨fun _ => (hb_w7 93 (by decide +kernel)), ca_mJ6_numberOfTrailingZeros_0f7a4.1, ca_mJ6_numberOfTrailingZeros_0f7a4.2, fun h => absurd h (by decide), fun _ => ct_mJ6_numberOfTrailingZeros_0f7a4, fun h => absurd h (by decide), fun h => absurd h (by decide)⟩
  · cases h
theorem hb_T37_ok (O : Nat → Option FieldType) (X : ab_X) : ∀ (ix sort y na ci : Nat), hb_T37 ix = some (sort, y, na, ci) → ∀ M : ab_MI, ab_mo M = 37 → (ab_my M).cls = RJ0 →
    (sort = 4 → Cond.methodLink (ab_my M).cls ix objectInit ∈ hb_TB ∧ Cond.instanceMethod objectInit ∈ hb_TB ∧ Cond.code objectInit ⟨#[0xb1]⟩ 1 none ∈ hb_TB) ∧
    (sort = 5 → Cond.methodLink (ab_my M).cls ix arraycopyName ∈ hb_TB ∧ Cond.native arraycopyName ∈ hb_TB ∧ Cond.static arraycopyName ∈ hb_TB ∧ Cond.initialized "java/lang/System" ∈ hb_TB) ∧
    (sort = 7 → Cond.methodLink (ab_my M).cls ix Lib.Math.max.name ∈ hb_TB ∧ Cond.static Lib.Math.max.name ∈ hb_TB ∧ Cond.initialized "java/lang/Math" ∈ hb_TB ∧ Cond.code Lib.Math.max.name Lib.Math.max.code 2 (some .int) ∈ hb_TB) ∧
    (sort = 8 → Cond.methodLink (ab_my M).cls ix Lib.Math.min.name ∈ hb_TB ∧ Cond.static Lib.Math.min.name ∈ hb_TB ∧ Cond.initialized "java/lang/Math" ∈ hb_TB ∧ Cond.code Lib.Math.min.name Lib.Math.min.code 2 (some .int) ∈ hb_TB) ∧
    (sort = 9 → Cond.methodLink (ab_my M).cls ix Lib.MathLoose.min_long.x ∈ hb_TB ∧ Cond.static Lib.MathLoose.min_long.x ∈ hb_TB ∧ Cond.initialized "java/lang/Math" ∈ hb_TB ∧ Cond.code Lib.MathLoose.min_long.x Lib.MathLoose.min_long.code 4 (some .long) ∈ hb_TB) ∧
    (sort < 4 ∨ sort = 6 → ∀ M' : ab_MI, ab_gM (hb_Gx O X) y = some M' → (sort ≠ 3 → Cond.methodLink (ab_my M).cls ix (ab_my M') ∈ hb_TB) ∧ Cond.initialized (ab_my M').cls ∈ hb_TB ∧ ((ab_my M').cls ≠ "java/lang/invoke/MethodHandle" ∧ (ab_my M').cls ≠ "java/lang/invoke/VarHandle" ∧ (parseMethodDescriptor (ab_my M').desc).map (fun d => d.parameters.length) = some na) ∧
      (sort = 0 → Cond.instanceMethod (ab_my M') ∈ hb_TB ∧ Cond.selects (ab_my M').cls (ab_my M') (ab_my M') ∈ hb_TB ∧ ∃ q : vw_C, (ab_gK (hb_Gx O X))[ci]? = some q ∧ q.1 = (ab_my M').cls) ∧
      (sort = 1 → Cond.static (ab_my M') ∈ hb_TB) ∧
      (sort = 6 → Cond.instanceMethod (ab_my M') ∈ hb_TB ∧ Cond.selects (ab_my M').cls (ab_my M') (ab_my M') ∈ hb_TB ∧ (ab_my M').cls = "java/lang/String") ∧
      (sort = 2 ∨ sort = 3 → (ab_my M').name = "<init>" ∧ Cond.instanceMethod (ab_my M') ∈ hb_TB ∧ ab_mr M' = none)) := by
  intro ix sort y na ci h M _ hcl
  rw [hcl]
  unfold hb_T37 at h
  split at h
  · cases h
    refine ⟨fun h => absurd h (by decide), fun h => absurd h (by decide), fun h => absurd h (by decide), fun h => absurd h (by decide), fun h => absurd h (by decide), fun _ M' hM' => ?_⟩
    obtain rfl : mJ0_coder_7d493 = M' := Option.some.inj ((show ab_gM (hb_Gx O X) 9477 = some mJ0_coder_7d493 from rfl).symm.trans hM')
    exact ⟨fun _ => (hb_w1 226 (by decide +kernel)), ca_mJ0_coder_7d493.1, ca_mJ0_coder_7d493.2, fun h => absurd h (by decide), fun h => absurd h (by decide), fun _ => ⟨ci_mJ0_coder_7d493, cs_mJ0_coder_7d493, rfl⟩, fun h => absurd h (by decide)⟩
  · cases h
    refine ⟨fun h => absurd h (by decide), fun h => absurd h (by decide), fun h => absurd h (by decide), fun h => absurd h (by decide), fun h => absurd h (by decide), fun _ M' hM' => ?_⟩
    obtain rfl : mJ0_isLatin1_aae02 = M' := Option.some.inj ((show ab_gM (hb_Gx O X) 9478 = some mJ0_isLatin1_aae02 from rfl).symm.trans hM')
    exact ⟨fun _ => (hb_w1 236 (by decide +kernel)), ca_mJ0_isLatin1_aae02.1, ca_mJ0_isLatin1_aae02.2, fun h => absurd h (by decide), fun h => absurd h (by decide), fun _ => ⟨ci_mJ0_isLatin1_aae02, cs_mJ0_isLatin1_aae02, rfl⟩, fun h => absurd h (by decide)⟩
  · cases h
    refine ⟨fun h => absurd h (by decide), fun h => absurd h (by decide), fun h => absurd h (by decide), fun h => absurd h (by decide), fun h => absurd h (by decide), fun _ M' hM' => ?_⟩
    obtain rfl : mJ1_charAt_3b067 = M' := Option.some.inj ((show ab_gM (hb_Gx O X) 9728 = some mJ1_charAt_3b067 from rfl).symm.trans hM')
    exact ⟨fun _ => (hb_w2 0 (by decide +kernel)), ca_mJ1_charAt_3b067.1, ca_mJ1_charAt_3b067.2, fun h => absurd h (by decide), fun _ => ct_mJ1_charAt_3b067, fun h => absurd h (by decide), fun h => absurd h (by decide)⟩
  · cases h
    refine ⟨fun h => absurd h (by decide), fun h => absurd h (by decide), fun h => absurd h (by decide), fun h => absurd h (by decide), fun h => absurd h (by decide), fun _ M' hM' => ?_⟩
    obtain rfl : mJ2_charAt_3b067 = M' := Option.some.inj ((show ab_gM (hb_Gx O X) 9990 = some mJ2_charAt_3b067 from rfl).symm.trans hM')
    exact ⟨fun _ => (hb_w2 11 (by decide +kernel)), ca_mJ2_charAt_3b067.1, ca_mJ2_charAt_3b067.2, fun h => absurd h (by decide), fun _ => ct_mJ2_charAt_3b067, fun h => absurd h (by decide), fun h => absurd h (by decide)⟩
  · cases h
    refine ⟨fun h => absurd h (by decide), fun h => absurd h (by decide), fun h => absurd h (by decide), fun h => absurd h (by decide), fun h => absurd h (by decide), fun _ M' hM' => ?_⟩
    obtain rfl : mJ0_length_8abf5 = M' := Option.some.inj ((show ab_gM (hb_Gx O X) 9472 = some mJ0_length_8abf5 from rfl).symm.trans hM')
    exact ⟨fun _ => (hb_w4 202 (by decide +kernel)), ca_mJ0_length_8abf5.1, ca_mJ0_length_8abf5.2, fun h => absurd h (by decide), fun h => absurd h (by decide), fun _ => ⟨ci_mJ0_length_8abf5, cs_mJ0_length_8abf5, rfl⟩, fun h => absurd h (by decide)⟩
  · cases h
    refine ⟨fun h => absurd h (by decide), fun h => absurd h (by decide), fun h => absurd h (by decide), fun h => absurd h (by decide), fun h => absurd h (by decide), fun _ M' hM' => ?_⟩
    obtain rfl : mJ1_equals_b5fdf = M' := Option.some.inj ((show ab_gM (hb_Gx O X) 9730 = some mJ1_equals_b5fdf from rfl).symm.trans hM')
    exact ⟨fun _ => (hb_w11 112 (by decide +kernel)), ca_mJ1_equals_b5fdf.1, ca_mJ1_equals_b5fdf.2, fun h => absurd h (by decide), fun _ => ct_mJ1_equals_b5fdf, fun h => absurd h (by decide), fun h => absurd h (by decide)⟩
  · cases h
    refine ⟨fun h => absurd h (by decide), fun h => absurd h (by decide), fun h => absurd h (by decide), fun h => absurd h (by decide), fun h => absurd h (by decide), fun _ M' hM' => ?_⟩
    obtain rfl : mJ0_indexOf_7cf53 = M' := Option.some.inj ((show ab_gM (hb_Gx O X) 9476 = some mJ0_indexOf_7cf53 from rfl).symm.trans hM')
    exact ⟨fun _ => (hb_w4 198 (by decide +kernel)), ca_mJ0_indexOf_7cf53.1, ca_mJ0_indexOf_7cf53.2, fun h => absurd h (by decide), fun h => absurd h (by decide), fun _ => ⟨ci_mJ0_indexOf_7cf53, cs_mJ0_indexOf_7cf53, rfl⟩, fun h => absurd h (by decide)⟩
  · cases h
    refine ⟨fun h => absurd h (by decide), fun h => absurd h (by decide), fun h => absurd h (by decide), fun h => absurd h (by decide), fun h => absurd h (by decide), fun _ M' hM' => ?_⟩
    obtain rfl : mJ1_indexOf_4cfef = M' := Option.some.inj ((show ab_gM (hb_Gx O X) 9731 = some mJ1_indexOf_4cfef from rfl).symm.trans hM')
    exact ⟨fun _ => (hb_w4 203 (by decide +kernel)), ca_mJ1_indexOf_4cfef.1, ca_mJ1_indexOf_4cfef.2, fun h => absurd h (by decide), fun _ => ct_mJ1_indexOf_4cfef, fun h => absurd h (by decide), fun h => absurd h (by decide)⟩
  · cases h
    refine ⟨fun h => absurd h (by decide), fun h => absurd h (by decide), fun h => absurd h (by decide), fun h => absurd h (by decide), fun h => absurd h (by decide), fun _ M' hM' => ?_⟩
    obtain rfl : mJ2_indexOf_4cfef = M' := Option.some.inj ((show ab_gM (hb_Gx O X) 9986 = some mJ2_indexOf_4cfef from rfl).symm.trans hM')
    exact ⟨fun _ => (hb_w4 216 (by decide +kernel)), ca_mJ2_indexOf_4cfef.1, ca_mJ2_indexOf_4cfef.2, fun h => absurd h (by decide), fun _ => ct_mJ2_indexOf_4cfef, fun h => absurd h (by decide), fun h => absurd h (by decide)⟩
  · cases h
    refine ⟨fun h => absurd h (by decide), fun h => absurd h (by decide), fun h => absurd h (by decide), fun h => absurd h (by decide), fun h => absurd h (by decide), fun _ M' hM' => ?_⟩
    obtain rfl : mJ3_checkIndex_8e157 = M' := Option.some.inj ((show ab_gM (hb_Gx O X) 13056 = some mJ3_checkIndex_8e157 from rfl).symm.trans hM')
    exact ⟨fun _ => (hb_w2 8 (by decide +kernel)), ca_mJ3_checkIndex_8e157.1, ca_mJ3_checkIndex_8e157.2, fun h => absurd h (by decide), fun _ => ct_mJ3_checkIndex_8e157, fun h => absurd h (by decide), fun h => absurd h (by decide)⟩
  · cases h
    refine ⟨fun h => absurd h (by decide), fun h => absurd h (by decide), fun h => absurd h (by decide), fun h => absurd h (by decide), fun h => absurd h (by decide), fun _ M' hM' => ?_⟩
    obtain rfl : mJ3_checkFromToIndex_8c36e = M' := Option.some.inj ((show ab_gM (hb_Gx O X) 13057 = some mJ3_checkFromToIndex_8c36e from rfl).symm.trans hM')
    exact ⟨fun _ => (hb_w4 231 (by decide +kernel)), ca_mJ3_checkFromToIndex_8c36e.1, ca_mJ3_checkFromToIndex_8c36e.2, fun h => absurd h (by decide), fun _ => ct_mJ3_checkFromToIndex_8c36e, fun h => absurd h (by decide), fun h => absurd h (by decide)⟩
  · cases h
theorem hb_T38_ok (O : Nat → Option FieldType) (X : ab_X) : ∀ (ix sort y na ci : Nat), hb_T38 ix = some (sort, y, na, ci) → ∀ M : ab_MI, ab_mo M = 38 → (ab_my M).cls = RJ1 →
    (sort = 4 → Cond.methodLink (ab_my M).cls ix objectInit ∈ hb_TB ∧ Cond.instanceMethod objectInit ∈ hb_TB ∧ Cond.code objectInit ⟨#[0xb1]⟩ 1 none ∈ hb_TB) ∧
    (sort = 5 → Cond.methodLink (ab_my M).cls ix arraycopyName ∈ hb_TB ∧ Cond.native arraycopyName ∈ hb_TB ∧ Cond.static arraycopyName ∈ hb_TB ∧ Cond.initialized "java/lang/System" ∈ hb_TB) ∧
    (sort = 7 → Cond.methodLink (ab_my M).cls ix Lib.Math.max.name ∈ hb_TB ∧ Cond.static Lib.Math.max.name ∈ hb_TB ∧ Cond.initialized "java/lang/Math" ∈ hb_TB ∧ Cond.code Lib.Math.max.name Lib.Math.max.code 2 (some .int) ∈ hb_TB) ∧
    (sort = 8 → Cond.methodLink (ab_my M).cls ix Lib.Math.min.name ∈ hb_TB ∧ Cond.static Lib.Math.min.name ∈ hb_TB ∧ Cond.initialized "java/lang/Math" ∈ hb_TB ∧ Cond.code Lib.Math.min.name Lib.Math.min.code 2 (some .int) ∈ hb_TB) ∧
    (sort = 9 → Cond.methodLink (ab_my M).cls ix Lib.MathLoose.min_long.x ∈ hb_TB ∧ Cond.static Lib.MathLoose.min_long.x ∈ hb_TB ∧ Cond.initialized "java/lang/Math" ∈ hb_TB ∧ Cond.code Lib.MathLoose.min_long.x Lib.MathLoose.min_long.code 4 (some .long) ∈ hb_TB) ∧
    (sort < 4 ∨ sort = 6 → ∀ M' : ab_MI, ab_gM (hb_Gx O X) y = some M' → (sort ≠ 3 → Cond.methodLink (ab_my M).cls ix (ab_my M') ∈ hb_TB) ∧ Cond.initialized (ab_my M').cls ∈ hb_TB ∧ ((ab_my M').cls ≠ "java/lang/invoke/MethodHandle" ∧ (ab_my M').cls ≠ "java/lang/invoke/VarHandle" ∧ (parseMethodDescriptor (ab_my M').desc).map (fun d => d.parameters.length) = some na) ∧
      (sort = 0 → Cond.instanceMethod (ab_my M') ∈ hb_TB ∧ Cond.selects (ab_my M').cls (ab_my M') (ab_my M') ∈ hb_TB ∧ ∃ q : vw_C, (ab_gK (hb_Gx O X))[ci]? = some q ∧ q.1 = (ab_my M').cls) ∧
      (sort = 1 → Cond.static (ab_my M') ∈ hb_TB) ∧
      (sort = 6 → Cond.instanceMethod (ab_my M') ∈ hb_TB ∧ Cond.selects (ab_my M').cls (ab_my M') (ab_my M') ∈ hb_TB ∧ (ab_my M').cls = "java/lang/String") ∧
      (sort = 2 ∨ sort = 3 → (ab_my M').name = "<init>" ∧ Cond.instanceMethod (ab_my M') ∈ hb_TB ∧ ab_mr M' = none)) := by
  intro ix sort y na ci h M _ hcl
  rw [hcl]
  unfold hb_T38 at h
  split at h
  · cases h
    refine ⟨fun h => absurd h (by decide), fun h => absurd h (by decide), fun h => absurd h (by decide), fun h => absurd h (by decide), fun h => absurd h (by decide), fun _ M' hM' => ?_⟩
    obtain rfl : mJ0_checkIndex_df160 = M' := Option.some.inj ((show ab_gM (hb_Gx O X) 9479 = some mJ0_checkIndex_df160 from rfl).symm.trans hM')
    exact ⟨fun _ => (hb_w2 3 (by decide +kernel)), ca_mJ0_checkIndex_df160.1, ca_mJ0_checkIndex_df160.2, fun h => absurd h (by decide), fun _ => ct_mJ0_checkIndex_df160, fun h => absurd h (by decide), fun h => absurd h (by decide)⟩
  · cases h
    exact ⟨fun h => absurd h (by decide), fun h => absurd h (by decide), fun h => absurd h (by decide), fun _ => ⟨(hb_w4 210 (by decide +kernel)), ca_m8⟩, fun h => absurd h (by decide), fun h => absurd h (by decide)⟩
  · cases h
    refine ⟨fun h => absurd h (by decide), fun h => absurd h (by decide), fun h => absurd h (by decide), fun h => absurd h (by decide), fun h => absurd h (by decide), fun _ M' hM' => ?_⟩
    obtain rfl : mJ1_canEncode_9a6ad = M' := Option.some.inj ((show ab_gM (hb_Gx O X) 9729 = some mJ1_canEncode_9a6ad from rfl).symm.trans hM')
    exact ⟨fun _ => (hb_w4 206 (by decide +kernel)), ca_mJ1_canEncode_9a6ad.1, ca_mJ1_canEncode_9a6ad.2, fun h => absurd h (by decide), fun _ => ct_mJ1_canEncode_9a6ad, fun h => absurd h (by decide), fun h => absurd h (by decide)⟩
  · cases h
    exact ⟨fun h => absurd h (by decide), fun h => absurd h (by decide), fun _ => ⟨(hb_w4 209 (by decide +kernel)), ca_m7⟩, fun h => absurd h (by decide), fun h => absurd h (by decide), fun h => absurd h (by decide)⟩
  · cases h
    refine ⟨fun h => absurd h (by decide), fun h => absurd h (by decide), fun h => absurd h (by decide), fun h => absurd h (by decide), fun h => absurd h (by decide), fun _ M' hM' => ?_⟩
    obtain rfl : mJ1_indexOfChar_4cfef = M' := Option.some.inj ((show ab_gM (hb_Gx O X) 9732 = some mJ1_indexOfChar_4cfef from rfl).symm.trans hM')
    exact ⟨fun _ => (hb_w4 213 (by decide +kernel)), ca_mJ1_indexOfChar_4cfef.1, ca_mJ1_indexOfChar_4cfef.2, fun h => absurd h (by decide), fun _ => ct_mJ1_indexOfChar_4cfef, fun h => absurd h (by decide), fun h => absurd h (by decide)⟩
  · cases h
theorem hb_T39_ok (O : Nat → Option FieldType) (X : ab_X) : ∀ (ix sort y na ci : Nat), hb_T39 ix = some (sort, y, na, ci) → ∀ M : ab_MI, ab_mo M = 39 → (ab_my M).cls = RJ2 →
    (sort = 4 → Cond.methodLink (ab_my M).cls ix objectInit ∈ hb_TB ∧ Cond.instanceMethod objectInit ∈ hb_TB ∧ Cond.code objectInit ⟨#[0xb1]⟩ 1 none ∈ hb_TB) ∧
    (sort = 5 → Cond.methodLink (ab_my M).cls ix arraycopyName ∈ hb_TB ∧ Cond.native arraycopyName ∈ hb_TB ∧ Cond.static arraycopyName ∈ hb_TB ∧ Cond.initialized "java/lang/System" ∈ hb_TB) ∧
    (sort = 7 → Cond.methodLink (ab_my M).cls ix Lib.Math.max.name ∈ hb_TB ∧ Cond.static Lib.Math.max.name ∈ hb_TB ∧ Cond.initialized "java/lang/Math" ∈ hb_TB ∧ Cond.code Lib.Math.max.name Lib.Math.max.code 2 (some .int) ∈ hb_TB) ∧
    (sort = 8 → Cond.methodLink (ab_my M).cls ix Lib.Math.min.name ∈ hb_TB ∧ Cond.static Lib.Math.min.name ∈ hb_TB ∧ Cond.initialized "java/lang/Math" ∈ hb_TB ∧ Cond.code Lib.Math.min.name Lib.Math.min.code 2 (some .int) ∈ hb_TB) ∧
    (sort = 9 → Cond.methodLink (ab_my M).cls ix Lib.MathLoose.min_long.x ∈ hb_TB ∧ Cond.static Lib.MathLoose.min_long.x ∈ hb_TB ∧ Cond.initialized "java/lang/Math" ∈ hb_TB ∧ Cond.code Lib.MathLoose.min_long.x Lib.MathLoose.min_long.code 4 (some .long) ∈ hb_TB) ∧
    (sort < 4 ∨ sort = 6 → ∀ M' : ab_MI, ab_gM (hb_Gx O X) y = some M' → (sort ≠ 3 → Cond.methodLink (ab_my M).cls ix (ab_my M') ∈ hb_TB) ∧ Cond.initialized (ab_my M').cls ∈ hb_TB ∧ ((ab_my M').cls ≠ "java/lang/invoke/MethodHandle" ∧ (ab_my M').cls ≠ "java/lang/invoke/VarHandle" ∧ (parseMethodDescriptor (ab_my M').desc).map (fun d => d.parameters.length) = some na) ∧
      (sort = 0 → Cond.instanceMethod (ab_my M') ∈ hb_TB ∧ Cond.selects (ab_my M').cls (ab_my M') (ab_my M') ∈ hb_TB ∧ ∃ q : vw_C, (ab_gK (hb_Gx O X))[ci]? = some q ∧ q.1 = (ab_my M').cls) ∧
      (sort = 1 → Cond.static (ab_my M') ∈ hb_TB) ∧
      (sort = 6 → Cond.instanceMethod (ab_my M') ∈ hb_TB ∧ Cond.selects (ab_my M').cls (ab_my M') (ab_my M') ∈ hb_TB ∧ (ab_my M').cls = "java/lang/String") ∧
      (sort = 2 ∨ sort = 3 → (ab_my M').name = "<init>" ∧ Cond.instanceMethod (ab_my M') ∈ hb_TB ∧ ab_mr M' = none)) := by
  intro ix sort y na ci h M _ hcl
  rw [hcl]
  unfold hb_T39 at h
  split at h
  · cases h
    refine ⟨fun h => absurd h (by decide), fun h => absurd h (by decide), fun h => absurd h (by decide), fun h => absurd h (by decide), fun h => absurd h (by decide), fun _ M' hM' => ?_⟩
    obtain rfl : mJ2_length_9d52b = M' := Option.some.inj ((show ab_gM (hb_Gx O X) 9985 = some mJ2_length_9d52b from rfl).symm.trans hM')
    exact ⟨fun _ => (hb_w2 17 (by decide +kernel)), ca_mJ2_length_9d52b.1, ca_mJ2_length_9d52b.2, fun h => absurd h (by decide), fun _ => ct_mJ2_length_9d52b, fun h => absurd h (by decide), fun h => absurd h (by decide)⟩
  · cases h
    refine ⟨fun h => absurd h (by decide), fun h => absurd h (by decide), fun h => absurd h (by decide), fun h => absurd h (by decide), fun h => absurd h (by decide), fun _ M' hM' => ?_⟩
    obtain rfl : mJ2_checkIndex_2214a = M' := Option.some.inj ((show ab_gM (hb_Gx O X) 9991 = some mJ2_checkIndex_2214a from rfl).symm.trans hM')
    exact ⟨fun _ => (hb_w2 14 (by decide +kernel)), ca_mJ2_checkIndex_2214a.1, ca_mJ2_checkIndex_2214a.2, fun h => absurd h (by decide), fun _ => ct_mJ2_checkIndex_2214a, fun h => absurd h (by decide), fun h => absurd h (by decide)⟩
  · cases h
    refine ⟨fun h => absurd h (by decide), fun h => absurd h (by decide), fun h => absurd h (by decide), fun h => absurd h (by decide), fun h => absurd h (by decide), fun _ M' hM' => ?_⟩
    obtain rfl : mJ2_getChar_3b067 = M' := Option.some.inj ((show ab_gM (hb_Gx O X) 9984 = some mJ2_getChar_3b067 from rfl).symm.trans hM')
    exact ⟨fun _ => (hb_w2 21 (by decide +kernel)), ca_mJ2_getChar_3b067.1, ca_mJ2_getChar_3b067.2, fun h => absurd h (by decide), fun _ => ct_mJ2_getChar_3b067, fun h => absurd h (by decide), fun h => absurd h (by decide)⟩
  · cases h
    refine ⟨fun h => absurd h (by decide), fun h => absurd h (by decide), fun h => absurd h (by decide), fun h => absurd h (by decide), fun h => absurd h (by decide), fun _ M' hM' => ?_⟩
    obtain rfl : mJ2_checkBoundsBeginEnd_d044e = M' := Option.some.inj ((show ab_gM (hb_Gx O X) 9992 = some mJ2_checkBoundsBeginEnd_d044e from rfl).symm.trans hM')
    exact ⟨fun _ => (hb_w4 225 (by decide +kernel)), ca_mJ2_checkBoundsBeginEnd_d044e.1, ca_mJ2_checkBoundsBeginEnd_d044e.2, fun h => absurd h (by decide), fun _ => ct_mJ2_checkBoundsBeginEnd_d044e, fun h => absurd h (by decide), fun h => absurd h (by decide)⟩
  · cases h
    refine ⟨fun h => absurd h (by decide), fun h => absurd h (by decide), fun h => absurd h (by decide), fun h => absurd h (by decide), fun h => absurd h (by decide), fun _ M' hM' => ?_⟩
    obtain rfl : mJ11_highSurrogate_5068e = M' := Option.some.inj ((show ab_gM (hb_Gx O X) 7937 = some mJ11_highSurrogate_5068e from rfl).symm.trans hM')
    exact ⟨fun _ => (hb_w5 3 (by decide +kernel)), ca_mJ11_highSurrogate_5068e.1, ca_mJ11_highSurrogate_5068e.2, fun h => absurd h (by decide), fun _ => ct_mJ11_highSurrogate_5068e, fun h => absurd h (by decide), fun h => absurd h (by decide)⟩
  · cases h
    refine ⟨fun h => absurd h (by decide), fun h => absurd h (by decide), fun h => absurd h (by decide), fun h => absurd h (by decide), fun h => absurd h (by decide), fun _ M' hM' => ?_⟩
    obtain rfl : mJ11_lowSurrogate_5068e = M' := Option.some.inj ((show ab_gM (hb_Gx O X) 7938 = some mJ11_lowSurrogate_5068e from rfl).symm.trans hM')
    exact ⟨fun _ => (hb_w5 7 (by decide +kernel)), ca_mJ11_lowSurrogate_5068e.1, ca_mJ11_lowSurrogate_5068e.2, fun h => absurd h (by decide), fun _ => ct_mJ11_lowSurrogate_5068e, fun h => absurd h (by decide), fun h => absurd h (by decide)⟩
  · cases h
    refine ⟨fun h => absurd h (by decide), fun h => absurd h (by decide), fun h => absurd h (by decide), fun h => absurd h (by decide), fun h => absurd h (by decide), fun _ M' hM' => ?_⟩
    obtain rfl : mJ11_isValidCodePoint_9a6ad = M' := Option.some.inj ((show ab_gM (hb_Gx O X) 7936 = some mJ11_isValidCodePoint_9a6ad from rfl).symm.trans hM')
    exact ⟨fun _ => (hb_w5 0 (by decide +kernel)), ca_mJ11_isValidCodePoint_9a6ad.1, ca_mJ11_isValidCodePoint_9a6ad.2, fun h => absurd h (by decide), fun _ => ct_mJ11_isValidCodePoint_9a6ad, fun h => absurd h (by decide), fun h => absurd h (by decide)⟩
  · cases h
    exact ⟨fun h => absurd h (by decide), fun h => absurd h (by decide), fun h => absurd h (by decide), fun _ => ⟨(hb_w4 220 (by decide +kernel)), ca_m8⟩, fun h => absurd h (by decide), fun h => absurd h (by decide)⟩
  · cases h
    exact ⟨fun h => absurd h (by decide), fun h => absurd h (by decide), fun _ => ⟨(hb_w4 219 (by decide +kernel)), ca_m7⟩, fun h => absurd h (by decide), fun h => absurd h (by decide), fun h => absurd h (by decide)⟩
  · cases h
    refine ⟨fun h => absurd h (by decide), fun h => absurd h (by decide), fun h => absurd h (by decide), fun h => absurd h (by decide), fun h => absurd h (by decide), fun _ M' hM' => ?_⟩
    obtain rfl : mJ2_indexOfChar_4cfef = M' := Option.some.inj ((show ab_gM (hb_Gx O X) 9987 = some mJ2_indexOfChar_4cfef from rfl).symm.trans hM')
    exact ⟨fun _ => (hb_w4 222 (by decide +kernel)), ca_mJ2_indexOfChar_4cfef.1, ca_mJ2_indexOfChar_4cfef.2, fun h => absurd h (by decide), fun _ => ct_mJ2_indexOfChar_4cfef, fun h => absurd h (by decide), fun h => absurd h (by decide)⟩
  · cases h
    refine ⟨fun h => absurd h (by decide), fun h => absurd h (by decide), fun h => absurd h (by decide), fun h => absurd h (by decide), fun h => absurd h (by decide), fun _ M' hM' => ?_⟩
    obtain rfl : mJ2_indexOfSupplementary_4cfef = M' := Option.some.inj ((show ab_gM (hb_Gx O X) 9989 = some mJ2_indexOfSupplementary_4cfef from rfl).symm.trans hM')
    exact ⟨fun _ => (hb_w4 237 (by decide +kernel)), ca_mJ2_indexOfSupplementary_4cfef.1, ca_mJ2_indexOfSupplementary_4cfef.2, fun h => absurd h (by decide), fun _ => ct_mJ2_indexOfSupplementary_4cfef, fun h => absurd h (by decide), fun h => absurd h (by decide)⟩
  · cases h
    refine ⟨fun h => absurd h (by decide), fun h => absurd h (by decide), fun h => absurd h (by decide), fun h => absurd h (by decide), fun h => absurd h (by decide), fun _ M' hM' => ?_⟩
    obtain rfl : mJ0_checkBoundsBeginEnd_23922 = M' := Option.some.inj ((show ab_gM (hb_Gx O X) 9480 = some mJ0_checkBoundsBeginEnd_23922 from rfl).symm.trans hM')
    exact ⟨fun _ => (hb_w4 228 (by decide +kernel)), ca_mJ0_checkBoundsBeginEnd_23922.1, ca_mJ0_checkBoundsBeginEnd_23922.2, fun h => absurd h (by decide), fun _ => ct_mJ0_checkBoundsBeginEnd_23922, fun h => absurd h (by decide), fun h => absurd h (by decide)⟩
  · cases h
    refine ⟨fun h => absurd h (by decide), fun h => absurd h (by decide), fun h => absurd h (by decide), fun h => absurd h (by decide), fun h => absurd h (by decide), fun _ M' hM' => ?_⟩
    obtain rfl : mJ2_indexOfCharUnsafe_4cfef = M' := Option.some.inj ((show ab_gM (hb_Gx O X) 9988 = some mJ2_indexOfCharUnsafe_4cfef from rfl).symm.trans hM')
    exact ⟨fun _ => (hb_w4 234 (by decide +kernel)), ca_mJ2_indexOfCharUnsafe_4cfef.1, ca_mJ2_indexOfCharUnsafe_4cfef.2, fun h => absurd h (by decide), fun _ => ct_mJ2_indexOfCharUnsafe_4cfef, fun h => absurd h (by decide), fun h => absurd h (by decide)⟩
  · cases h
    refine ⟨fun h => absurd h (by decide), fun h => absurd h (by decide), fun h => absurd h (by decide), fun h => absurd h (by decide), fun h => absurd h (by decide), fun _ M' hM' => ?_⟩
    obtain rfl : mJ0_checkIndex_df160 = M' := Option.some.inj ((show ab_gM (hb_Gx O X) 9479 = some mJ0_checkIndex_df160 from rfl).symm.trans hM')
    exact ⟨fun _ => (hb_w2 20 (by decide +kernel)), ca_mJ0_checkIndex_df160.1, ca_mJ0_checkIndex_df160.2, fun h => absurd h (by decide), fun _ => ct_mJ0_checkIndex_df160, fun h => absurd h (by decide), fun h => absurd h (by decide)⟩
  · cases h
theorem hb_T41_ok (O : Nat → Option FieldType) (X : ab_X) : ∀ (ix sort y na ci : Nat), hb_T41 ix = some (sort, y, na, ci) → ∀ M : ab_MI, ab_mo M = 41 → (ab_my M).cls = RJxa1e45 →
    (sort = 4 → Cond.methodLink (ab_my M).cls ix objectInit ∈ hb_TB ∧ Cond.instanceMethod objectInit ∈ hb_TB ∧ Cond.code objectInit ⟨#[0xb1]⟩ 1 none ∈ hb_TB) ∧
    (sort = 5 → Cond.methodLink (ab_my M).cls ix arraycopyName ∈ hb_TB ∧ Cond.native arraycopyName ∈ hb_TB ∧ Cond.static arraycopyName ∈ hb_TB ∧ Cond.initialized "java/lang/System" ∈ hb_TB) ∧
    (sort = 7 → Cond.methodLink (ab_my M).cls ix Lib.Math.max.name ∈ hb_TB ∧ Cond.static Lib.Math.max.name ∈ hb_TB ∧ Cond.initialized "java/lang/Math" ∈ hb_TB ∧ Cond.code Lib.Math.max.name Lib.Math.max.code 2 (some .int) ∈ hb_TB) ∧
    (sort = 8 → Cond.methodLink (ab_my M).cls ix Lib.Math.min.name ∈ hb_TB ∧ Cond.static Lib.Math.min.name ∈ hb_TB ∧ Cond.initialized "java/lang/Math" ∈ hb_TB ∧ Cond.code Lib.Math.min.name Lib.Math.min.code 2 (some .int) ∈ hb_TB) ∧
    (sort = 9 → Cond.methodLink (ab_my M).cls ix Lib.MathLoose.min_long.x ∈ hb_TB ∧ Cond.static Lib.MathLoose.min_long.x ∈ hb_TB ∧ Cond.initialized "java/lang/Math" ∈ hb_TB ∧ Cond.code Lib.MathLoose.min_long.x Lib.MathLoose.min_long.code 4 (some .long) ∈ hb_TB) ∧
    (sort < 4 ∨ sort = 6 → ∀ M' : ab_MI, ab_gM (hb_Gx O X) y = some M' → (sort ≠ 3 → Cond.methodLink (ab_my M).cls ix (ab_my M') ∈ hb_TB) ∧ Cond.initialized (ab_my M').cls ∈ hb_TB ∧ ((ab_my M').cls ≠ "java/lang/invoke/MethodHandle" ∧ (ab_my M').cls ≠ "java/lang/invoke/VarHandle" ∧ (parseMethodDescriptor (ab_my M').desc).map (fun d => d.parameters.length) = some na) ∧
      (sort = 0 → Cond.instanceMethod (ab_my M') ∈ hb_TB ∧ Cond.selects (ab_my M').cls (ab_my M') (ab_my M') ∈ hb_TB ∧ ∃ q : vw_C, (ab_gK (hb_Gx O X))[ci]? = some q ∧ q.1 = (ab_my M').cls) ∧
      (sort = 1 → Cond.static (ab_my M') ∈ hb_TB) ∧
      (sort = 6 → Cond.instanceMethod (ab_my M') ∈ hb_TB ∧ Cond.selects (ab_my M').cls (ab_my M') (ab_my M') ∈ hb_TB ∧ (ab_my M').cls = "java/lang/String") ∧
      (sort = 2 ∨ sort = 3 → (ab_my M').name = "<init>" ∧ Cond.instanceMethod (ab_my M') ∈ hb_TB ∧ ab_mr M' = none)) := by
  intro ix sort y na ci h M _ hcl
  rw [hcl]
  unfold hb_T41 at h
  split at h
  · cases h
    exact ⟨fun _ => ⟨(hb_w8 132 (by decide +kernel)), ca_obj.1, ca_obj.2⟩, fun h => absurd h (by decide), fun h => absurd h (by decide), fun h => absurd h (by decide), fun h => absurd h (by decide), fun h => absurd h (by decide)⟩
  · cases h
theorem hb_T42_ok (O : Nat → Option FieldType) (X : ab_X) : ∀ (ix sort y na ci : Nat), hb_T42 ix = some (sort, y, na, ci) → ∀ M : ab_MI, ab_mo M = 42 → (ab_my M).cls = RJxc12de →
    (sort = 4 → Cond.methodLink (ab_my M).cls ix objectInit ∈ hb_TB ∧ Cond.instanceMethod objectInit ∈ hb_TB ∧ Cond.code objectInit ⟨#[0xb1]⟩ 1 none ∈ hb_TB) ∧
    (sort = 5 → Cond.methodLink (ab_my M).cls ix arraycopyName ∈ hb_TB ∧ Cond.native arraycopyName ∈ hb_TB ∧ Cond.static arraycopyName ∈ hb_TB ∧ Cond.initialized "java/lang/System" ∈ hb_TB) ∧
    (sort = 7 → Cond.methodLink (ab_my M).cls ix Lib.Math.max.name ∈ hb_TB ∧ Cond.static Lib.Math.max.name ∈ hb_TB ∧ Cond.initialized "java/lang/Math" ∈ hb_TB ∧ Cond.code Lib.Math.max.name Lib.Math.max.code 2 (some .int) ∈ hb_TB) ∧
    (sort = 8 → Cond.methodLink (ab_my M).cls ix Lib.Math.min.name ∈ hb_TB ∧ Cond.static Lib.Math.min.name ∈ hb_TB ∧ Cond.initialized "java/lang/Math" ∈ hb_TB ∧ Cond.code Lib.Math.min.name Lib.Math.min.code 2 (some .int) ∈ hb_TB) ∧
    (sort = 9 → Cond.methodLink (ab_my M).cls ix Lib.MathLoose.min_long.x ∈ hb_TB ∧ Cond.static Lib.MathLoose.min_long.x ∈ hb_TB ∧ Cond.initialized "java/lang/Math" ∈ hb_TB ∧ Cond.code Lib.MathLoose.min_long.x Lib.MathLoose.min_long.code 4 (some .long) ∈ hb_TB) ∧
    (sort < 4 ∨ sort = 6 → ∀ M' : ab_MI, ab_gM (hb_Gx O X) y = some M' → (sort ≠ 3 → Cond.methodLink (ab_my M).cls ix (ab_my M') ∈ hb_TB) ∧ Cond.initialized (ab_my M').cls ∈ hb_TB ∧ ((ab_my M').cls ≠ "java/lang/invoke/MethodHandle" ∧ (ab_my M').cls ≠ "java/lang/invoke/VarHandle" ∧ (parseMethodDescriptor (ab_my M').desc).map (fun d => d.parameters.length) = some na) ∧
      (sort = 0 → Cond.instanceMethod (ab_my M') ∈ hb_TB ∧ Cond.selects (ab_my M').cls (ab_my M') (ab_my M') ∈ hb_TB ∧ ∃ q : vw_C, (ab_gK (hb_Gx O X))[ci]? = some q ∧ q.1 = (ab_my M').cls) ∧
      (sort = 1 → Cond.static (ab_my M') ∈ hb_TB) ∧
      (sort = 6 → Cond.instanceMethod (ab_my M') ∈ hb_TB ∧ Cond.selects (ab_my M').cls (ab_my M') (ab_my M') ∈ hb_TB ∧ (ab_my M').cls = "java/lang/String") ∧
      (sort = 2 ∨ sort = 3 → (ab_my M').name = "<init>" ∧ Cond.instanceMethod (ab_my M') ∈ hb_TB ∧ ab_mr M' = none)) := by
  intro ix sort y na ci h M _ hcl
  rw [hcl]
  unfold hb_T42 at h
  split at h
  · cases h
    refine ⟨fun h => absurd h (by decide), fun h => absurd h (by decide), fun h => absurd h (by decide), fun h => absurd h (by decide), fun h => absurd h (by decide), fun _ M' hM' => ?_⟩
    obtain rfl : mJxa1e45_init_da8c8 = M' := Option.some.inj ((show ab_gM (hb_Gx O X) 10496 = some mJxa1e45_init_da8c8 from rfl).symm.trans hM')
    exact ⟨fun _ => (hb_w8 129 (by decide +kernel)), ca_mJxa1e45_init_da8c8.1, ca_mJxa1e45_init_da8c8.2, fun h => absurd h (by decide), fun h => absurd h (by decide), fun h => absurd h (by decide), fun _ => ⟨rfl, ci_mJxa1e45_init_da8c8, rfl⟩⟩
  · cases h
theorem hb_T43_ok (O : Nat → Option FieldType) (X : ab_X) : ∀ (ix sort y na ci : Nat), hb_T43 ix = some (sort, y, na, ci) → ∀ M : ab_MI, ab_mo M = 43 → (ab_my M).cls = RJx4a65c →
    (sort = 4 → Cond.methodLink (ab_my M).cls ix objectInit ∈ hb_TB ∧ Cond.instanceMethod objectInit ∈ hb_TB ∧ Cond.code objectInit ⟨#[0xb1]⟩ 1 none ∈ hb_TB) ∧
    (sort = 5 → Cond.methodLink (ab_my M).cls ix arraycopyName ∈ hb_TB ∧ Cond.native arraycopyName ∈ hb_TB ∧ Cond.static arraycopyName ∈ hb_TB ∧ Cond.initialized "java/lang/System" ∈ hb_TB) ∧
    (sort = 7 → Cond.methodLink (ab_my M).cls ix Lib.Math.max.name ∈ hb_TB ∧ Cond.static Lib.Math.max.name ∈ hb_TB ∧ Cond.initialized "java/lang/Math" ∈ hb_TB ∧ Cond.code Lib.Math.max.name Lib.Math.max.code 2 (some .int) ∈ hb_TB) ∧
    (sort = 8 → Cond.methodLink (ab_my M).cls ix Lib.Math.min.name ∈ hb_TB ∧ Cond.static Lib.Math.min.name ∈ hb_TB ∧ Cond.initialized "java/lang/Math" ∈ hb_TB ∧ Cond.code Lib.Math.min.name Lib.Math.min.code 2 (some .int) ∈ hb_TB) ∧
    (sort = 9 → Cond.methodLink (ab_my M).cls ix Lib.MathLoose.min_long.x ∈ hb_TB ∧ Cond.static Lib.MathLoose.min_long.x ∈ hb_TB ∧ Cond.initialized "java/lang/Math" ∈ hb_TB ∧ Cond.code Lib.MathLoose.min_long.x Lib.MathLoose.min_long.code 4 (some .long) ∈ hb_TB) ∧
    (sort < 4 ∨ sort = 6 → ∀ M' : ab_MI, ab_gM (hb_Gx O X) y = some M' → (sort ≠ 3 → Cond.methodLink (ab_my M).cls ix (ab_my M') ∈ hb_TB) ∧ Cond.initialized (ab_my M').cls ∈ hb_TB ∧ ((ab_my M').cls ≠ "java/lang/invoke/MethodHandle" ∧ (ab_my M').cls ≠ "java/lang/invoke/VarHandle" ∧ (parseMethodDescriptor (ab_my M').desc).map (fun d => d.parameters.length) = some na) ∧
      (sort = 0 → Cond.instanceMethod (ab_my M') ∈ hb_TB ∧ Cond.selects (ab_my M').cls (ab_my M') (ab_my M') ∈ hb_TB ∧ ∃ q : vw_C, (ab_gK (hb_Gx O X))[ci]? = some q ∧ q.1 = (ab_my M').cls) ∧
      (sort = 1 → Cond.static (ab_my M') ∈ hb_TB) ∧
      (sort = 6 → Cond.instanceMethod (ab_my M') ∈ hb_TB ∧ Cond.selects (ab_my M').cls (ab_my M') (ab_my M') ∈ hb_TB ∧ (ab_my M').cls = "java/lang/String") ∧
      (sort = 2 ∨ sort = 3 → (ab_my M').name = "<init>" ∧ Cond.instanceMethod (ab_my M') ∈ hb_TB ∧ ab_mr M' = none)) := by
  intro ix sort y na ci h M _ hcl
  rw [hcl]
  unfold hb_T43 at h
  split at h
  · cases h
    refine ⟨fun h => absurd h (by decide), fun h => absurd h (by decide), fun h => absurd h (by decide), fun h => absurd h (by decide), fun h => absurd h (by decide), fun _ M' hM' => ?_⟩
    obtain rfl : mJxc12de_init_da8c8 = M' := Option.some.inj ((show ab_gM (hb_Gx O X) 10752 = some mJxc12de_init_da8c8 from rfl).symm.trans hM')
    exact ⟨fun _ => (hb_w8 126 (by decide +kernel)), ca_mJxc12de_init_da8c8.1, ca_mJxc12de_init_da8c8.2, fun h => absurd h (by decide), fun h => absurd h (by decide), fun h => absurd h (by decide), fun _ => ⟨rfl, ci_mJxc12de_init_da8c8, rfl⟩⟩
  · cases h
    refine ⟨fun h => absurd h (by decide), fun h => absurd h (by decide), fun h => absurd h (by decide), fun h => absurd h (by decide), fun h => absurd h (by decide), fun _ M' hM' => ?_⟩
    obtain rfl : mJ7_copyOf_1904c = M' := Option.some.inj ((show ab_gM (hb_Gx O X) 11266 = some mJ7_copyOf_1904c from rfl).symm.trans hM')
    exact ⟨fun _ => (hb_w12 72 (by decide +kernel)), ca_mJ7_copyOf_1904c.1, ca_mJ7_copyOf_1904c.2, fun h => absurd h (by decide), fun _ => ct_mJ7_copyOf_1904c, fun h => absurd h (by decide), fun h => absurd h (by decide)⟩
  · cases h
    refine ⟨fun h => absurd h (by decide), fun h => absurd h (by decide), fun h => absurd h (by decide), fun h => absurd h (by decide), fun h => absurd h (by decide), fun _ M' hM' => ?_⟩
    obtain rfl : mJx4a65c_grow_92f84 = M' := Option.some.inj ((show ab_gM (hb_Gx O X) 11009 = some mJx4a65c_grow_92f84 from rfl).symm.trans hM')
    exact ⟨fun _ => (hb_w12 60 (by decide +kernel)), ca_mJx4a65c_grow_92f84.1, ca_mJx4a65c_grow_92f84.2, fun _ => ⟨ci_mJx4a65c_grow_92f84, cs_mJx4a65c_grow_92f84, _, rfl, rfl⟩, fun h => absurd h (by decide), fun h => absurd h (by decide), fun h => absurd h (by decide)⟩
  · cases h
    refine ⟨fun h => absurd h (by decide), fun h => absurd h (by decide), fun h => absurd h (by decide), fun h => absurd h (by decide), fun h => absurd h (by decide), fun _ M' hM' => ?_⟩
    obtain rfl : mJ8_newLength_cabcc = M' := Option.some.inj ((show ab_gM (hb_Gx O X) 12800 = some mJ8_newLength_cabcc from rfl).symm.trans hM')
    exact ⟨fun _ => (hb_w12 64 (by decide +kernel)), ca_mJ8_newLength_cabcc.1, ca_mJ8_newLength_cabcc.2, fun h => absurd h (by decide), fun _ => ct_mJ8_newLength_cabcc, fun h => absurd h (by decide), fun h => absurd h (by decide)⟩
  · cases h
    exact ⟨fun h => absurd h (by decide), fun h => absurd h (by decide), fun _ => ⟨(hb_w12 113 (by decide +kernel)), ca_m7⟩, fun h => absurd h (by decide), fun h => absurd h (by decide), fun h => absurd h (by decide)⟩
  · cases h
    refine ⟨fun h => absurd h (by decide), fun h => absurd h (by decide), fun h => absurd h (by decide), fun h => absurd h (by decide), fun h => absurd h (by decide), fun _ M' hM' => ?_⟩
    obtain rfl : mJ15_checkIndex_7cf53 = M' := Option.some.inj ((show ab_gM (hb_Gx O X) 12032 = some mJ15_checkIndex_7cf53 from rfl).symm.trans hM')
    exact ⟨fun _ => (hb_w12 119 (by decide +kernel)), ca_mJ15_checkIndex_7cf53.1, ca_mJ15_checkIndex_7cf53.2, fun h => absurd h (by decide), fun _ => ct_mJ15_checkIndex_7cf53, fun h => absurd h (by decide), fun h => absurd h (by decide)⟩
  · cases h
    refine ⟨fun h => absurd h (by decide), fun h => absurd h (by decide), fun h => absurd h (by decide), fun h => absurd h (by decide), fun h => absurd h (by decide), fun _ M' hM' => ?_⟩
    obtain rfl : mJx4a65c_elementData_915e3 = M' := Option.some.inj ((show ab_gM (hb_Gx O X) 11012 = some mJx4a65c_elementData_915e3 from rfl).symm.trans hM')
    exact ⟨fun _ => (hb_w12 123 (by decide +kernel)), ca_mJx4a65c_elementData_915e3.1, ca_mJx4a65c_elementData_915e3.2, fun _ => ⟨ci_mJx4a65c_elementData_915e3, cs_mJx4a65c_elementData_915e3, _, rfl, rfl⟩, fun h => absurd h (by decide), fun h => absurd h (by decide), fun h => absurd h (by decide)⟩
  · cases h
    refine ⟨fun h => absurd h (by decide), fun h => absurd h (by decide), fun h => absurd h (by decide), fun h => absurd h (by decide), fun h => absurd h (by decide), fun _ M' hM' => ?_⟩
    obtain rfl : mJx4a65c_grow_d5877 = M' := Option.some.inj ((show ab_gM (hb_Gx O X) 11010 = some mJx4a65c_grow_d5877 from rfl).symm.trans hM')
    exact ⟨fun _ => (hb_w12 56 (by decide +kernel)), ca_mJx4a65c_grow_d5877.1, ca_mJx4a65c_grow_d5877.2, fun _ => ⟨ci_mJx4a65c_grow_d5877, cs_mJx4a65c_grow_d5877, _, rfl, rfl⟩, fun h => absurd h (by decide), fun h => absurd h (by decide), fun h => absurd h (by decide)⟩
  · cases h
    refine ⟨fun h => absurd h (by decide), fun h => absurd h (by decide), fun h => absurd h (by decide), fun h => absurd h (by decide), fun h => absurd h (by decide), fun _ M' hM' => ?_⟩
    obtain rfl : mJx4a65c_add_72be8 = M' := Option.some.inj ((show ab_gM (hb_Gx O X) 11014 = some mJx4a65c_add_72be8 from rfl).symm.trans hM')
    exact ⟨fun _ => (hb_w12 52 (by decide +kernel)), ca_mJx4a65c_add_72be8.1, ca_mJx4a65c_add_72be8.2, fun _ => ⟨ci_mJx4a65c_add_72be8, cs_mJx4a65c_add_72be8, _, rfl, rfl⟩, fun h => absurd h (by decide), fun h => absurd h (by decide), fun h => absurd h (by decide)⟩
  · cases h
theorem hb_T44_ok (O : Nat → Option FieldType) (X : ab_X) : ∀ (ix sort y na ci : Nat), hb_T44 ix = some (sort, y, na, ci) → ∀ M : ab_MI, ab_mo M = 44 → (ab_my M).cls = RJ7 →
    (sort = 4 → Cond.methodLink (ab_my M).cls ix objectInit ∈ hb_TB ∧ Cond.instanceMethod objectInit ∈ hb_TB ∧ Cond.code objectInit ⟨#[0xb1]⟩ 1 none ∈ hb_TB) ∧
    (sort = 5 → Cond.methodLink (ab_my M).cls ix arraycopyName ∈ hb_TB ∧ Cond.native arraycopyName ∈ hb_TB ∧ Cond.static arraycopyName ∈ hb_TB ∧ Cond.initialized "java/lang/System" ∈ hb_TB) ∧
    (sort = 7 → Cond.methodLink (ab_my M).cls ix Lib.Math.max.name ∈ hb_TB ∧ Cond.static Lib.Math.max.name ∈ hb_TB ∧ Cond.initialized "java/lang/Math" ∈ hb_TB ∧ Cond.code Lib.Math.max.name Lib.Math.max.code 2 (some .int) ∈ hb_TB) ∧
    (sort = 8 → Cond.methodLink (ab_my M).cls ix Lib.Math.min.name ∈ hb_TB ∧ Cond.static Lib.Math.min.name ∈ hb_TB ∧ Cond.initialized "java/lang/Math" ∈ hb_TB ∧ Cond.code Lib.Math.min.name Lib.Math.min.code 2 (some .int) ∈ hb_TB) ∧
    (sort = 9 → Cond.methodLink (ab_my M).cls ix Lib.MathLoose.min_long.x ∈ hb_TB ∧ Cond.static Lib.MathLoose.min_long.x ∈ hb_TB ∧ Cond.initialized "java/lang/Math" ∈ hb_TB ∧ Cond.code Lib.MathLoose.min_long.x Lib.MathLoose.min_long.code 4 (some .long) ∈ hb_TB) ∧
    (sort < 4 ∨ sort = 6 → ∀ M' : ab_MI, ab_gM (hb_Gx O X) y = some M' → (sort ≠ 3 → Cond.methodLink (ab_my M).cls ix (ab_my M') ∈ hb_TB) ∧ Cond.initialized (ab_my M').cls ∈ hb_TB ∧ ((ab_my M').cls ≠ "java/lang/invoke/MethodHandle" ∧ (ab_my M').cls ≠ "java/lang/invoke/VarHandle" ∧ (parseMethodDescriptor (ab_my M').desc).map (fun d => d.parameters.length) = some na) ∧
      (sort = 0 → Cond.instanceMethod (ab_my M') ∈ hb_TB ∧ Cond.selects (ab_my M').cls (ab_my M') (ab_my M') ∈ hb_TB ∧ ∃ q : vw_C, (ab_gK (hb_Gx O X))[ci]? = some q ∧ q.1 = (ab_my M').cls) ∧
      (sort = 1 → Cond.static (ab_my M') ∈ hb_TB) ∧
      (sort = 6 → Cond.instanceMethod (ab_my M') ∈ hb_TB ∧ Cond.selects (ab_my M').cls (ab_my M') (ab_my M') ∈ hb_TB ∧ (ab_my M').cls = "java/lang/String") ∧
      (sort = 2 ∨ sort = 3 → (ab_my M').name = "<init>" ∧ Cond.instanceMethod (ab_my M') ∈ hb_TB ∧ ab_mr M' = none)) := by
  intro ix sort y na ci h M _ hcl
  rw [hcl]
  unfold hb_T44 at h
  split at h
  · cases h
    exact ⟨fun h => absurd h (by decide), fun h => absurd h (by decide), fun h => absurd h (by decide), fun h => absurd h (by decide), fun h => absurd h (by decide), fun h => absurd h (by decide)⟩
  · cases h
    exact ⟨fun h => absurd h (by decide), fun _ => ⟨(hb_w5 141 (by decide +kernel)), ca_cpy⟩, fun h => absurd h (by decide), fun h => absurd h (by decide), fun h => absurd h (by decide), fun h => absurd h (by decide)⟩
  · cases h
    refine ⟨fun h => absurd h (by decide), fun h => absurd h (by decide), fun h => absurd h (by decide), fun h => absurd h (by decide), fun h => absurd h (by decide), fun _ M' hM' => ?_⟩
    obtain rfl : mJ7_copyOf_6403c = M' := Option.some.inj ((show ab_gM (hb_Gx O X) 11267 = some mJ7_copyOf_6403c from rfl).symm.trans hM')
    exact ⟨fun _ => (hb_w12 107 (by decide +kernel)), ca_mJ7_copyOf_6403c.1, ca_mJ7_copyOf_6403c.2, fun h => absurd h (by decide), fun _ => ct_mJ7_copyOf_6403c, fun h => absurd h (by decide), fun h => absurd h (by decide)⟩
  · cases h
    exact ⟨fun h => absurd h (by decide), fun h => absurd h (by decide), fun h => absurd h (by decide), fun _ => ⟨(hb_w5 140 (by decide +kernel)), ca_m8⟩, fun h => absurd h (by decide), fun h => absurd h (by decide)⟩
  · cases h
theorem hb_T47_ok (O : Nat → Option FieldType) (X : ab_X) : ∀ (ix sort y na ci : Nat), hb_T47 ix = some (sort, y, na, ci) → ∀ M : ab_MI, ab_mo M = 47 → (ab_my M).cls = RJ15 →
    (sort = 4 → Cond.methodLink (ab_my M).cls ix objectInit ∈ hb_TB ∧ Cond.instanceMethod objectInit ∈ hb_TB ∧ Cond.code objectInit ⟨#[0xb1]⟩ 1 none ∈ hb_TB) ∧
    (sort = 5 → Cond.methodLink (ab_my M).cls ix arraycopyName ∈ hb_TB ∧ Cond.native arraycopyName ∈ hb_TB ∧ Cond.static arraycopyName ∈ hb_TB ∧ Cond.initialized "java/lang/System" ∈ hb_TB) ∧
    (sort = 7 → Cond.methodLink (ab_my M).cls ix Lib.Math.max.name ∈ hb_TB ∧ Cond.static Lib.Math.max.name ∈ hb_TB ∧ Cond.initialized "java/lang/Math" ∈ hb_TB ∧ Cond.code Lib.Math.max.name Lib.Math.max.code 2 (some .int) ∈ hb_TB) ∧
    (sort = 8 → Cond.methodLink (ab_my M).cls ix Lib.Math.min.name ∈ hb_TB ∧ Cond.static Lib.Math.min.name ∈ hb_TB ∧ Cond.initialized "java/lang/Math" ∈ hb_TB ∧ Cond.code Lib.Math.min.name Lib.Math.min.code 2 (some .int) ∈ hb_TB) ∧
    (sort = 9 → Cond.methodLink (ab_my M).cls ix Lib.MathLoose.min_long.x ∈ hb_TB ∧ Cond.static Lib.MathLoose.min_long.x ∈ hb_TB ∧ Cond.initialized "java/lang/Math" ∈ hb_TB ∧ Cond.code Lib.MathLoose.min_long.x Lib.MathLoose.min_long.code 4 (some .long) ∈ hb_TB) ∧
    (sort < 4 ∨ sort = 6 → ∀ M' : ab_MI, ab_gM (hb_Gx O X) y = some M' → (sort ≠ 3 → Cond.methodLink (ab_my M).cls ix (ab_my M') ∈ hb_TB) ∧ Cond.initialized (ab_my M').cls ∈ hb_TB ∧ ((ab_my M').cls ≠ "java/lang/invoke/MethodHandle" ∧ (ab_my M').cls ≠ "java/lang/invoke/VarHandle" ∧ (parseMethodDescriptor (ab_my M').desc).map (fun d => d.parameters.length) = some na) ∧
      (sort = 0 → Cond.instanceMethod (ab_my M') ∈ hb_TB ∧ Cond.selects (ab_my M').cls (ab_my M') (ab_my M') ∈ hb_TB ∧ ∃ q : vw_C, (ab_gK (hb_Gx O X))[ci]? = some q ∧ q.1 = (ab_my M').cls) ∧
      (sort = 1 → Cond.static (ab_my M') ∈ hb_TB) ∧
      (sort = 6 → Cond.instanceMethod (ab_my M') ∈ hb_TB ∧ Cond.selects (ab_my M').cls (ab_my M') (ab_my M') ∈ hb_TB ∧ (ab_my M').cls = "java/lang/String") ∧
      (sort = 2 ∨ sort = 3 → (ab_my M').name = "<init>" ∧ Cond.instanceMethod (ab_my M') ∈ hb_TB ∧ ab_mr M' = none)) := by
  intro ix sort y na ci h M _ hcl
  rw [hcl]
  unfold hb_T47 at h
  split at h
  · cases h
    refine ⟨fun h => absurd h (by decide), fun h => absurd h (by decide), fun h => absurd h (by decide), fun h => absurd h (by decide), fun h => absurd h (by decide), fun _ M' hM' => ?_⟩
    obtain rfl : mJ3_checkIndex_8e157 = M' := Option.some.inj ((show ab_gM (hb_Gx O X) 13056 = some mJ3_checkIndex_8e157 from rfl).symm.trans hM')
    exact ⟨fun _ => (hb_w12 122 (by decide +kernel)), ca_mJ3_checkIndex_8e157.1, ca_mJ3_checkIndex_8e157.2, fun h => absurd h (by decide), fun _ => ct_mJ3_checkIndex_8e157, fun h => absurd h (by decide), fun h => absurd h (by decide)⟩
  · cases h
theorem hb_T50_ok (O : Nat → Option FieldType) (X : ab_X) : ∀ (ix sort y na ci : Nat), hb_T50 ix = some (sort, y, na, ci) → ∀ M : ab_MI, ab_mo M = 50 → (ab_my M).cls = RJ8 →
    (sort = 4 → Cond.methodLink (ab_my M).cls ix objectInit ∈ hb_TB ∧ Cond.instanceMethod objectInit ∈ hb_TB ∧ Cond.code objectInit ⟨#[0xb1]⟩ 1 none ∈ hb_TB) ∧
    (sort = 5 → Cond.methodLink (ab_my M).cls ix arraycopyName ∈ hb_TB ∧ Cond.native arraycopyName ∈ hb_TB ∧ Cond.static arraycopyName ∈ hb_TB ∧ Cond.initialized "java/lang/System" ∈ hb_TB) ∧
    (sort = 7 → Cond.methodLink (ab_my M).cls ix Lib.Math.max.name ∈ hb_TB ∧ Cond.static Lib.Math.max.name ∈ hb_TB ∧ Cond.initialized "java/lang/Math" ∈ hb_TB ∧ Cond.code Lib.Math.max.name Lib.Math.max.code 2 (some .int) ∈ hb_TB) ∧
    (sort = 8 → Cond.methodLink (ab_my M).cls ix Lib.Math.min.name ∈ hb_TB ∧ Cond.static Lib.Math.min.name ∈ hb_TB ∧ Cond.initialized "java/lang/Math" ∈ hb_TB ∧ Cond.code Lib.Math.min.name Lib.Math.min.code 2 (some .int) ∈ hb_TB) ∧
    (sort = 9 → Cond.methodLink (ab_my M).cls ix Lib.MathLoose.min_long.x ∈ hb_TB ∧ Cond.static Lib.MathLoose.min_long.x ∈ hb_TB ∧ Cond.initialized "java/lang/Math" ∈ hb_TB ∧ Cond.code Lib.MathLoose.min_long.x Lib.MathLoose.min_long.code 4 (some .long) ∈ hb_TB) ∧
    (sort < 4 ∨ sort = 6 → ∀ M' : ab_MI, ab_gM (hb_Gx O X) y = some M' → (sort ≠ 3 → Cond.methodLink (ab_my M).cls ix (ab_my M') ∈ hb_TB) ∧ Cond.initialized (ab_my M').cls ∈ hb_TB ∧ ((ab_my M').cls ≠ "java/lang/invoke/MethodHandle" ∧ (ab_my M').cls ≠ "java/lang/invoke/VarHandle" ∧ (parseMethodDescriptor (ab_my M').desc).map (fun d => d.parameters.length) = some na) ∧
      (sort = 0 → Cond.instanceMethod (ab_my M') ∈ hb_TB ∧ Cond.selects (ab_my M').cls (ab_my M') (ab_my M') ∈ hb_TB ∧ ∃ q : vw_C, (ab_gK (hb_Gx O X))[ci]? = some q ∧ q.1 = (ab_my M').cls) ∧
      (sort = 1 → Cond.static (ab_my M') ∈ hb_TB) ∧
      (sort = 6 → Cond.instanceMethod (ab_my M') ∈ hb_TB ∧ Cond.selects (ab_my M').cls (ab_my M') (ab_my M') ∈ hb_TB ∧ (ab_my M').cls = "java/lang/String") ∧
      (sort = 2 ∨ sort = 3 → (ab_my M').name = "<init>" ∧ Cond.instanceMethod (ab_my M') ∈ hb_TB ∧ ab_mr M' = none)) := by
  intro ix sort y na ci h M _ hcl
  rw [hcl]
  unfold hb_T50 at h
  split at h
  · cases h
    exact ⟨fun h => absurd h (by decide), fun h => absurd h (by decide), fun _ => ⟨(hb_w12 67 (by decide +kernel)), ca_m7⟩, fun h => absurd h (by decide), fun h => absurd h (by decide), fun h => absurd h (by decide)⟩
  · cases h
    refine ⟨fun h => absurd h (by decide), fun h => absurd h (by decide), fun h => absurd h (by decide), fun h => absurd h (by decide), fun h => absurd h (by decide), fun _ M' hM' => ?_⟩
    obtain rfl : mJ8_hugeLength_7cf53 = M' := Option.some.inj ((show ab_gM (hb_Gx O X) 12801 = some mJ8_hugeLength_7cf53 from rfl).symm.trans hM')
    exact ⟨fun _ => (hb_w12 69 (by decide +kernel)), ca_mJ8_hugeLength_7cf53.1, ca_mJ8_hugeLength_7cf53.2, fun h => absurd h (by decide), fun _ => ct_mJ8_hugeLength_7cf53, fun h => absurd h (by decide), fun h => absurd h (by decide)⟩
  · cases h
theorem hb_T51_ok (O : Nat → Option FieldType) (X : ab_X) : ∀ (ix sort y na ci : Nat), hb_T51 ix = some (sort, y, na, ci) → ∀ M : ab_MI, ab_mo M = 51 → (ab_my M).cls = RJ3 →
    (sort = 4 → Cond.methodLink (ab_my M).cls ix objectInit ∈ hb_TB ∧ Cond.instanceMethod objectInit ∈ hb_TB ∧ Cond.code objectInit ⟨#[0xb1]⟩ 1 none ∈ hb_TB) ∧
    (sort = 5 → Cond.methodLink (ab_my M).cls ix arraycopyName ∈ hb_TB ∧ Cond.native arraycopyName ∈ hb_TB ∧ Cond.static arraycopyName ∈ hb_TB ∧ Cond.initialized "java/lang/System" ∈ hb_TB) ∧
    (sort = 7 → Cond.methodLink (ab_my M).cls ix Lib.Math.max.name ∈ hb_TB ∧ Cond.static Lib.Math.max.name ∈ hb_TB ∧ Cond.initialized "java/lang/Math" ∈ hb_TB ∧ Cond.code Lib.Math.max.name Lib.Math.max.code 2 (some .int) ∈ hb_TB) ∧
    (sort = 8 → Cond.methodLink (ab_my M).cls ix Lib.Math.min.name ∈ hb_TB ∧ Cond.static Lib.Math.min.name ∈ hb_TB ∧ Cond.initialized "java/lang/Math" ∈ hb_TB ∧ Cond.code Lib.Math.min.name Lib.Math.min.code 2 (some .int) ∈ hb_TB) ∧
    (sort = 9 → Cond.methodLink (ab_my M).cls ix Lib.MathLoose.min_long.x ∈ hb_TB ∧ Cond.static Lib.MathLoose.min_long.x ∈ hb_TB ∧ Cond.initialized "java/lang/Math" ∈ hb_TB ∧ Cond.code Lib.MathLoose.min_long.x Lib.MathLoose.min_long.code 4 (some .long) ∈ hb_TB) ∧
    (sort < 4 ∨ sort = 6 → ∀ M' : ab_MI, ab_gM (hb_Gx O X) y = some M' → (sort ≠ 3 → Cond.methodLink (ab_my M).cls ix (ab_my M') ∈ hb_TB) ∧ Cond.initialized (ab_my M').cls ∈ hb_TB ∧ ((ab_my M').cls ≠ "java/lang/invoke/MethodHandle" ∧ (ab_my M').cls ≠ "java/lang/invoke/VarHandle" ∧ (parseMethodDescriptor (ab_my M').desc).map (fun d => d.parameters.length) = some na) ∧
      (sort = 0 → Cond.instanceMethod (ab_my M') ∈ hb_TB ∧ Cond.selects (ab_my M').cls (ab_my M') (ab_my M') ∈ hb_TB ∧ ∃ q : vw_C, (ab_gK (hb_Gx O X))[ci]? = some q ∧ q.1 = (ab_my M').cls) ∧
      (sort = 1 → Cond.static (ab_my M') ∈ hb_TB) ∧
      (sort = 6 → Cond.instanceMethod (ab_my M') ∈ hb_TB ∧ Cond.selects (ab_my M').cls (ab_my M') (ab_my M') ∈ hb_TB ∧ (ab_my M').cls = "java/lang/String") ∧
      (sort = 2 ∨ sort = 3 → (ab_my M').name = "<init>" ∧ Cond.instanceMethod (ab_my M') ∈ hb_TB ∧ ab_mr M' = none)) := by
  intro ix sort y na ci h M _ hcl
  rw [hcl]
  unfold hb_T51 at h
  split at h
  · cases h
theorem hb_T60_ok (O : Nat → Option FieldType) (X : ab_X) : ∀ (ix sort y na ci : Nat), hb_T60 ix = some (sort, y, na, ci) → ∀ M : ab_MI, ab_mo M = 60 → (ab_my M).cls = RZR15 →
    (sort = 4 → Cond.methodLink (ab_my M).cls ix objectInit ∈ hb_TB ∧ Cond.instanceMethod objectInit ∈ hb_TB ∧ Cond.code objectInit ⟨#[0xb1]⟩ 1 none ∈ hb_TB) ∧
    (sort = 5 → Cond.methodLink (ab_my M).cls ix arraycopyName ∈ hb_TB ∧ Cond.native arraycopyName ∈ hb_TB ∧ Cond.static arraycopyName ∈ hb_TB ∧ Cond.initialized "java/lang/System" ∈ hb_TB) ∧
    (sort = 7 → Cond.methodLink (ab_my M).cls ix Lib.Math.max.name ∈ hb_TB ∧ Cond.static Lib.Math.max.name ∈ hb_TB ∧ Cond.initialized "java/lang/Math" ∈ hb_TB ∧ Cond.code Lib.Math.max.name Lib.Math.max.code 2 (some .int) ∈ hb_TB) ∧
    (sort = 8 → Cond.methodLink (ab_my M).cls ix Lib.Math.min.name ∈ hb_TB ∧ Cond.static Lib.Math.min.name ∈ hb_TB ∧ Cond.initialized "java/lang/Math" ∈ hb_TB ∧ Cond.code Lib.Math.min.name Lib.Math.min.code 2 (some .int) ∈ hb_TB) ∧
    (sort = 9 → Cond.methodLink (ab_my M).cls ix Lib.MathLoose.min_long.x ∈ hb_TB ∧ Cond.static Lib.MathLoose.min_long.x ∈ hb_TB ∧ Cond.initialized "java/lang/Math" ∈ hb_TB ∧ Cond.code Lib.MathLoose.min_long.x Lib.MathLoose.min_long.code 4 (some .long) ∈ hb_TB) ∧
    (sort < 4 ∨ sort = 6 → ∀ M' : ab_MI, ab_gM (hb_Gx O X) y = some M' → (sort ≠ 3 → Cond.methodLink (ab_my M).cls ix (ab_my M') ∈ hb_TB) ∧ Cond.initialized (ab_my M').cls ∈ hb_TB ∧ ((ab_my M').cls ≠ "java/lang/invoke/MethodHandle" ∧ (ab_my M').cls ≠ "java/lang/invoke/VarHandle" ∧ (parseMethodDescriptor (ab_my M').desc).map (fun d => d.parameters.length) = some na) ∧
      (sort = 0 → Cond.instanceMethod (ab_my M') ∈ hb_TB ∧ Cond.selects (ab_my M').cls (ab_my M') (ab_my M') ∈ hb_TB ∧ ∃ q : vw_C, (ab_gK (hb_Gx O X))[ci]? = some q ∧ q.1 = (ab_my M').cls) ∧
      (sort = 1 → Cond.static (ab_my M') ∈ hb_TB) ∧
      (sort = 6 → Cond.instanceMethod (ab_my M') ∈ hb_TB ∧ Cond.selects (ab_my M').cls (ab_my M') (ab_my M') ∈ hb_TB ∧ (ab_my M').cls = "java/lang/String") ∧
      (sort = 2 ∨ sort = 3 → (ab_my M').name = "<init>" ∧ Cond.instanceMethod (ab_my M') ∈ hb_TB ∧ ab_mr M' = none)) := by
  intro ix sort y na ci h M _ hcl
  rw [hcl]
  unfold hb_T60 at h
  split at h
  · cases h
    refine ⟨fun h => absurd h (by decide), fun h => absurd h (by decide), fun h => absurd h (by decide), fun h => absurd h (by decide), fun h => absurd h (by decide), fun _ M' hM' => ?_⟩
    obtain rfl : mZE15_init = M' := Option.some.inj ((show ab_gM (hb_Gx O X) 15616 = some mZE15_init from rfl).symm.trans hM')
    exact ⟨fun _ => (hb_w9 49 (by decide +kernel)), ca_mZE15_init.1, ca_mZE15_init.2, fun h => absurd h (by decide), fun h => absurd h (by decide), fun h => absurd h (by decide), fun _ => ⟨rfl, ci_mZE15_init, rfl⟩⟩
  · cases h
theorem hb_T61_ok (O : Nat → Option FieldType) (X : ab_X) : ∀ (ix sort y na ci : Nat), hb_T61 ix = some (sort, y, na, ci) → ∀ M : ab_MI, ab_mo M = 61 → (ab_my M).cls = RZE15 →
    (sort = 4 → Cond.methodLink (ab_my M).cls ix objectInit ∈ hb_TB ∧ Cond.instanceMethod objectInit ∈ hb_TB ∧ Cond.code objectInit ⟨#[0xb1]⟩ 1 none ∈ hb_TB) ∧
    (sort = 5 → Cond.methodLink (ab_my M).cls ix arraycopyName ∈ hb_TB ∧ Cond.native arraycopyName ∈ hb_TB ∧ Cond.static arraycopyName ∈ hb_TB ∧ Cond.initialized "java/lang/System" ∈ hb_TB) ∧
    (sort = 7 → Cond.methodLink (ab_my M).cls ix Lib.Math.max.name ∈ hb_TB ∧ Cond.static Lib.Math.max.name ∈ hb_TB ∧ Cond.initialized "java/lang/Math" ∈ hb_TB ∧ Cond.code Lib.Math.max.name Lib.Math.max.code 2 (some .int) ∈ hb_TB) ∧
    (sort = 8 → Cond.methodLink (ab_my M).cls ix Lib.Math.min.name ∈ hb_TB ∧ Cond.static Lib.Math.min.name ∈ hb_TB ∧ Cond.initialized "java/lang/Math" ∈ hb_TB ∧ Cond.code Lib.Math.min.name Lib.Math.min.code 2 (some .int) ∈ hb_TB) ∧
    (sort = 9 → Cond.methodLink (ab_my M).cls ix Lib.MathLoose.min_long.x ∈ hb_TB ∧ Cond.static Lib.MathLoose.min_long.x ∈ hb_TB ∧ Cond.initialized "java/lang/Math" ∈ hb_TB ∧ Cond.code Lib.MathLoose.min_long.x Lib.MathLoose.min_long.code 4 (some .long) ∈ hb_TB) ∧
    (sort < 4 ∨ sort = 6 → ∀ M' : ab_MI, ab_gM (hb_Gx O X) y = some M' → (sort ≠ 3 → Cond.methodLink (ab_my M).cls ix (ab_my M') ∈ hb_TB) ∧ Cond.initialized (ab_my M').cls ∈ hb_TB ∧ ((ab_my M').cls ≠ "java/lang/invoke/MethodHandle" ∧ (ab_my M').cls ≠ "java/lang/invoke/VarHandle" ∧ (parseMethodDescriptor (ab_my M').desc).map (fun d => d.parameters.length) = some na) ∧
      (sort = 0 → Cond.instanceMethod (ab_my M') ∈ hb_TB ∧ Cond.selects (ab_my M').cls (ab_my M') (ab_my M') ∈ hb_TB ∧ ∃ q : vw_C, (ab_gK (hb_Gx O X))[ci]? = some q ∧ q.1 = (ab_my M').cls) ∧
      (sort = 1 → Cond.static (ab_my M') ∈ hb_TB) ∧
      (sort = 6 → Cond.instanceMethod (ab_my M') ∈ hb_TB ∧ Cond.selects (ab_my M').cls (ab_my M') (ab_my M') ∈ hb_TB ∧ (ab_my M').cls = "java/lang/String") ∧
      (sort = 2 ∨ sort = 3 → (ab_my M').name = "<init>" ∧ Cond.instanceMethod (ab_my M') ∈ hb_TB ∧ ab_mr M' = none)) := by
  intro ix sort y na ci h M _ hcl
  rw [hcl]
  unfold hb_T61 at h
  split at h
  · cases h
    refine ⟨fun h => absurd h (by decide), fun h => absurd h (by decide), fun h => absurd h (by decide), fun h => absurd h (by decide), fun h => absurd h (by decide), fun _ M' hM' => ?_⟩
    obtain rfl : mZT15_init = M' := Option.some.inj ((show ab_gM (hb_Gx O X) 15872 = some mZT15_init from rfl).symm.trans hM')
    exact ⟨fun _ => (hb_w9 52 (by decide +kernel)), ca_mZT15_init.1, ca_mZT15_init.2, fun h => absurd h (by decide), fun h => absurd h (by decide), fun h => absurd h (by decide), fun _ => ⟨rfl, ci_mZT15_init, rfl⟩⟩
  · cases h
theorem hb_T62_ok (O : Nat → Option FieldType) (X : ab_X) : ∀ (ix sort y na ci : Nat), hb_T62 ix = some (sort, y, na, ci) → ∀ M : ab_MI, ab_mo M = 62 → (ab_my M).cls = RZT15 →
    (sort = 4 → Cond.methodLink (ab_my M).cls ix objectInit ∈ hb_TB ∧ Cond.instanceMethod objectInit ∈ hb_TB ∧ Cond.code objectInit ⟨#[0xb1]⟩ 1 none ∈ hb_TB) ∧
    (sort = 5 → Cond.methodLink (ab_my M).cls ix arraycopyName ∈ hb_TB ∧ Cond.native arraycopyName ∈ hb_TB ∧ Cond.static arraycopyName ∈ hb_TB ∧ Cond.initialized "java/lang/System" ∈ hb_TB) ∧
    (sort = 7 → Cond.methodLink (ab_my M).cls ix Lib.Math.max.name ∈ hb_TB ∧ Cond.static Lib.Math.max.name ∈ hb_TB ∧ Cond.initialized "java/lang/Math" ∈ hb_TB ∧ Cond.code Lib.Math.max.name Lib.Math.max.code 2 (some .int) ∈ hb_TB) ∧
    (sort = 8 → Cond.methodLink (ab_my M).cls ix Lib.Math.min.name ∈ hb_TB ∧ Cond.static Lib.Math.min.name ∈ hb_TB ∧ Cond.initialized "java/lang/Math" ∈ hb_TB ∧ Cond.code Lib.Math.min.name Lib.Math.min.code 2 (some .int) ∈ hb_TB) ∧
    (sort = 9 → Cond.methodLink (ab_my M).cls ix Lib.MathLoose.min_long.x ∈ hb_TB ∧ Cond.static Lib.MathLoose.min_long.x ∈ hb_TB ∧ Cond.initialized "java/lang/Math" ∈ hb_TB ∧ Cond.code Lib.MathLoose.min_long.x Lib.MathLoose.min_long.code 4 (some .long) ∈ hb_TB) ∧
    (sort < 4 ∨ sort = 6 → ∀ M' : ab_MI, ab_gM (hb_Gx O X) y = some M' → (sort ≠ 3 → Cond.methodLink (ab_my M).cls ix (ab_my M') ∈ hb_TB) ∧ Cond.initialized (ab_my M').cls ∈ hb_TB ∧ ((ab_my M').cls ≠ "java/lang/invoke/MethodHandle" ∧ (ab_my M').cls ≠ "java/lang/invoke/VarHandle" ∧ (parseMethodDescriptor (ab_my M').desc).map (fun d => d.parameters.length) = some na) ∧
      (sort = 0 → Cond.instanceMethod (ab_my M') ∈ hb_TB ∧ Cond.selects (ab_my M').cls (ab_my M') (ab_my M') ∈ hb_TB ∧ ∃ q : vw_C, (ab_gK (hb_Gx O X))[ci]? = some q ∧ q.1 = (ab_my M').cls) ∧
      (sort = 1 → Cond.static (ab_my M') ∈ hb_TB) ∧
      (sort = 6 → Cond.instanceMethod (ab_my M') ∈ hb_TB ∧ Cond.selects (ab_my M').cls (ab_my M') (ab_my M') ∈ hb_TB ∧ (ab_my M').cls = "java/lang/String") ∧
      (sort = 2 ∨ sort = 3 → (ab_my M').name = "<init>" ∧ Cond.instanceMethod (ab_my M') ∈ hb_TB ∧ ab_mr M' = none)) := by
  intro ix sort y na ci h M _ hcl
  rw [hcl]
  unfold hb_T62 at h
  split at h
  · cases h
    exact ⟨fun _ => ⟨(hb_w6 41 (by decide +kernel)), ca_obj.1, ca_obj.2⟩, fun h => absurd h (by decide), fun h => absurd h (by decide), fun h => absurd h (by decide), fun h => absurd h (by decide), fun h => absurd h (by decide)⟩
  · cases h
theorem hb_T63_ok (O : Nat → Option FieldType) (X : ab_X) : ∀ (ix sort y na ci : Nat), hb_T63 ix = some (sort, y, na, ci) → ∀ M : ab_MI, ab_mo M = 63 → (ab_my M).cls = RZR16 →
    (sort = 4 → Cond.methodLink (ab_my M).cls ix objectInit ∈ hb_TB ∧ Cond.instanceMethod objectInit ∈ hb_TB ∧ Cond.code objectInit ⟨#[0xb1]⟩ 1 none ∈ hb_TB) ∧
    (sort = 5 → Cond.methodLink (ab_my M).cls ix arraycopyName ∈ hb_TB ∧ Cond.native arraycopyName ∈ hb_TB ∧ Cond.static arraycopyName ∈ hb_TB ∧ Cond.initialized "java/lang/System" ∈ hb_TB) ∧
    (sort = 7 → Cond.methodLink (ab_my M).cls ix Lib.Math.max.name ∈ hb_TB ∧ Cond.static Lib.Math.max.name ∈ hb_TB ∧ Cond.initialized "java/lang/Math" ∈ hb_TB ∧ Cond.code Lib.Math.max.name Lib.Math.max.code 2 (some .int) ∈ hb_TB) ∧
    (sort = 8 → Cond.methodLink (ab_my M).cls ix Lib.Math.min.name ∈ hb_TB ∧ Cond.static Lib.Math.min.name ∈ hb_TB ∧ Cond.initialized "java/lang/Math" ∈ hb_TB ∧ Cond.code Lib.Math.min.name Lib.Math.min.code 2 (some .int) ∈ hb_TB) ∧
    (sort = 9 → Cond.methodLink (ab_my M).cls ix Lib.MathLoose.min_long.x ∈ hb_TB ∧ Cond.static Lib.MathLoose.min_long.x ∈ hb_TB ∧ Cond.initialized "java/lang/Math" ∈ hb_TB ∧ Cond.code Lib.MathLoose.min_long.x Lib.MathLoose.min_long.code 4 (some .long) ∈ hb_TB) ∧
    (sort < 4 ∨ sort = 6 → ∀ M' : ab_MI, ab_gM (hb_Gx O X) y = some M' → (sort ≠ 3 → Cond.methodLink (ab_my M).cls ix (ab_my M') ∈ hb_TB) ∧ Cond.initialized (ab_my M').cls ∈ hb_TB ∧ ((ab_my M').cls ≠ "java/lang/invoke/MethodHandle" ∧ (ab_my M').cls ≠ "java/lang/invoke/VarHandle" ∧ (parseMethodDescriptor (ab_my M').desc).map (fun d => d.parameters.length) = some na) ∧
      (sort = 0 → Cond.instanceMethod (ab_my M') ∈ hb_TB ∧ Cond.selects (ab_my M').cls (ab_my M') (ab_my M') ∈ hb_TB ∧ ∃ q : vw_C, (ab_gK (hb_Gx O X))[ci]? = some q ∧ q.1 = (ab_my M').cls) ∧
      (sort = 1 → Cond.static (ab_my M') ∈ hb_TB) ∧
      (sort = 6 → Cond.instanceMethod (ab_my M') ∈ hb_TB ∧ Cond.selects (ab_my M').cls (ab_my M') (ab_my M') ∈ hb_TB ∧ (ab_my M').cls = "java/lang/String") ∧
      (sort = 2 ∨ sort = 3 → (ab_my M').name = "<init>" ∧ Cond.instanceMethod (ab_my M') ∈ hb_TB ∧ ab_mr M' = none)) := by
  intro ix sort y na ci h M _ hcl
  rw [hcl]
  unfold hb_T63 at h
  split at h
  · cases h
    refine ⟨fun h => absurd h (by decide), fun h => absurd h (by decide), fun h => absurd h (by decide), fun h => absurd h (by decide), fun h => absurd h (by decide), fun _ M' hM' => ?_⟩
    obtain rfl : mZE16_init = M' := Option.some.inj ((show ab_gM (hb_Gx O X) 16384 = some mZE16_init from rfl).symm.trans hM')
    exact ⟨fun _ => (hb_w9 49 (by decide +kernel)), ca_mZE16_init.1, ca_mZE16_init.2, fun h => absurd h (by decide), fun h => absurd h (by decide), fun h => absurd h (by decide), fun _ => ⟨rfl, ci_mZE16_init, rfl⟩⟩
  · cases h
theorem hb_T64_ok (O : Nat → Option FieldType) (X : ab_X) : ∀ (ix sort y na ci : Nat), hb_T64 ix = some (sort, y, na, ci) → ∀ M : ab_MI, ab_mo M = 64 → (ab_my M).cls = RZE16 →
    (sort = 4 → Cond.methodLink (ab_my M).cls ix objectInit ∈ hb_TB ∧ Cond.instanceMethod objectInit ∈ hb_TB ∧ Cond.code objectInit ⟨#[0xb1]⟩ 1 none ∈ hb_TB) ∧
    (sort = 5 → Cond.methodLink (ab_my M).cls ix arraycopyName ∈ hb_TB ∧ Cond.native arraycopyName ∈ hb_TB ∧ Cond.static arraycopyName ∈ hb_TB ∧ Cond.initialized "java/lang/System" ∈ hb_TB) ∧
    (sort = 7 → Cond.methodLink (ab_my M).cls ix Lib.Math.max.name ∈ hb_TB ∧ Cond.static Lib.Math.max.name ∈ hb_TB ∧ Cond.initialized "java/lang/Math" ∈ hb_TB ∧ Cond.code Lib.Math.max.name Lib.Math.max.code 2 (some .int) ∈ hb_TB) ∧
    (sort = 8 → Cond.methodLink (ab_my M).cls ix Lib.Math.min.name ∈ hb_TB ∧ Cond.static Lib.Math.min.name ∈ hb_TB ∧ Cond.initialized "java/lang/Math" ∈ hb_TB ∧ Cond.code Lib.Math.min.name Lib.Math.min.code 2 (some .int) ∈ hb_TB) ∧
    (sort = 9 → Cond.methodLink (ab_my M).cls ix Lib.MathLoose.min_long.x ∈ hb_TB ∧ Cond.static Lib.MathLoose.min_long.x ∈ hb_TB ∧ Cond.initialized "java/lang/Math" ∈ hb_TB ∧ Cond.code Lib.MathLoose.min_long.x Lib.MathLoose.min_long.code 4 (some .long) ∈ hb_TB) ∧
    (sort < 4 ∨ sort = 6 → ∀ M' : ab_MI, ab_gM (hb_Gx O X) y = some M' → (sort ≠ 3 → Cond.methodLink (ab_my M).cls ix (ab_my M') ∈ hb_TB) ∧ Cond.initialized (ab_my M').cls ∈ hb_TB ∧ ((ab_my M').cls ≠ "java/lang/invoke/MethodHandle" ∧ (ab_my M').cls ≠ "java/lang/invoke/VarHandle" ∧ (parseMethodDescriptor (ab_my M').desc).map (fun d => d.parameters.length) = some na) ∧
      (sort = 0 → Cond.instanceMethod (ab_my M') ∈ hb_TB ∧ Cond.selects (ab_my M').cls (ab_my M') (ab_my M') ∈ hb_TB ∧ ∃ q : vw_C, (ab_gK (hb_Gx O X))[ci]? = some q ∧ q.1 = (ab_my M').cls) ∧
      (sort = 1 → Cond.static (ab_my M') ∈ hb_TB) ∧
      (sort = 6 → Cond.instanceMethod (ab_my M') ∈ hb_TB ∧ Cond.selects (ab_my M').cls (ab_my M') (ab_my M') ∈ hb_TB ∧ (ab_my M').cls = "java/lang/String") ∧
      (sort = 2 ∨ sort = 3 → (ab_my M').name = "<init>" ∧ Cond.instanceMethod (ab_my M') ∈ hb_TB ∧ ab_mr M' = none)) := by
  intro ix sort y na ci h M _ hcl
  rw [hcl]
  unfold hb_T64 at h
  split at h
  · cases h
    refine ⟨fun h => absurd h (by decide), fun h => absurd h (by decide), fun h => absurd h (by decide), fun h => absurd h (by decide), fun h => absurd h (by decide), fun _ M' hM' => ?_⟩
    obtain rfl : mZT16_init = M' := Option.some.inj ((show ab_gM (hb_Gx O X) 16640 = some mZT16_init from rfl).symm.trans hM')
    exact ⟨fun _ => (hb_w9 52 (by decide +kernel)), ca_mZT16_init.1, ca_mZT16_init.2, fun h => absurd h (by decide), fun h => absurd h (by decide), fun h => absurd h (by decide), fun _ => ⟨rfl, ci_mZT16_init, rfl⟩⟩
  · cases h
theorem hb_T65_ok (O : Nat → Option FieldType) (X : ab_X) : ∀ (ix sort y na ci : Nat), hb_T65 ix = some (sort, y, na, ci) → ∀ M : ab_MI, ab_mo M = 65 → (ab_my M).cls = RZT16 →
    (sort = 4 → Cond.methodLink (ab_my M).cls ix objectInit ∈ hb_TB ∧ Cond.instanceMethod objectInit ∈ hb_TB ∧ Cond.code objectInit ⟨#[0xb1]⟩ 1 none ∈ hb_TB) ∧
    (sort = 5 → Cond.methodLink (ab_my M).cls ix arraycopyName ∈ hb_TB ∧ Cond.native arraycopyName ∈ hb_TB ∧ Cond.static arraycopyName ∈ hb_TB ∧ Cond.initialized "java/lang/System" ∈ hb_TB) ∧
    (sort = 7 → Cond.methodLink (ab_my M).cls ix Lib.Math.max.name ∈ hb_TB ∧ Cond.static Lib.Math.max.name ∈ hb_TB ∧ Cond.initialized "java/lang/Math" ∈ hb_TB ∧ Cond.code Lib.Math.max.name Lib.Math.max.code 2 (some .int) ∈ hb_TB) ∧
    (sort = 8 → Cond.methodLink (ab_my M).cls ix Lib.Math.min.name ∈ hb_TB ∧ Cond.static Lib.Math.min.name ∈ hb_TB ∧ Cond.initialized "java/lang/Math" ∈ hb_TB ∧ Cond.code Lib.Math.min.name Lib.Math.min.code 2 (some .int) ∈ hb_TB) ∧
    (sort = 9 → Cond.methodLink (ab_my M).cls ix Lib.MathLoose.min_long.x ∈ hb_TB ∧ Cond.static Lib.MathLoose.min_long.x ∈ hb_TB ∧ Cond.initialized "java/lang/Math" ∈ hb_TB ∧ Cond.code Lib.MathLoose.min_long.x Lib.MathLoose.min_long.code 4 (some .long) ∈ hb_TB) ∧
    (sort < 4 ∨ sort = 6 → ∀ M' : ab_MI, ab_gM (hb_Gx O X) y = some M' → (sort ≠ 3 → Cond.methodLink (ab_my M).cls ix (ab_my M') ∈ hb_TB) ∧ Cond.initialized (ab_my M').cls ∈ hb_TB ∧ ((ab_my M').cls ≠ "java/lang/invoke/MethodHandle" ∧ (ab_my M').cls ≠ "java/lang/invoke/VarHandle" ∧ (parseMethodDescriptor (ab_my M').desc).map (fun d => d.parameters.length) = some na) ∧
      (sort = 0 → Cond.instanceMethod (ab_my M') ∈ hb_TB ∧ Cond.selects (ab_my M').cls (ab_my M') (ab_my M') ∈ hb_TB ∧ ∃ q : vw_C, (ab_gK (hb_Gx O X))[ci]? = some q ∧ q.1 = (ab_my M').cls) ∧
      (sort = 1 → Cond.static (ab_my M') ∈ hb_TB) ∧
      (sort = 6 → Cond.instanceMethod (ab_my M') ∈ hb_TB ∧ Cond.selects (ab_my M').cls (ab_my M') (ab_my M') ∈ hb_TB ∧ (ab_my M').cls = "java/lang/String") ∧
      (sort = 2 ∨ sort = 3 → (ab_my M').name = "<init>" ∧ Cond.instanceMethod (ab_my M') ∈ hb_TB ∧ ab_mr M' = none)) := by
  intro ix sort y na ci h M _ hcl
  rw [hcl]
  unfold hb_T65 at h
  split at h
  · cases h
    exact ⟨fun _ => ⟨(hb_w6 41 (by decide +kernel)), ca_obj.1, ca_obj.2⟩, fun h => absurd h (by decide), fun h => absurd h (by decide), fun h => absurd h (by decide), fun h => absurd h (by decide), fun h => absurd h (by decide)⟩
  · cases h
theorem hb_T66_ok (O : Nat → Option FieldType) (X : ab_X) : ∀ (ix sort y na ci : Nat), hb_T66 ix = some (sort, y, na, ci) → ∀ M : ab_MI, ab_mo M = 66 → (ab_my M).cls = RZR22 →
    (sort = 4 → Cond.methodLink (ab_my M).cls ix objectInit ∈ hb_TB ∧ Cond.instanceMethod objectInit ∈ hb_TB ∧ Cond.code objectInit ⟨#[0xb1]⟩ 1 none ∈ hb_TB) ∧
    (sort = 5 → Cond.methodLink (ab_my M).cls ix arraycopyName ∈ hb_TB ∧ Cond.native arraycopyName ∈ hb_TB ∧ Cond.static arraycopyName ∈ hb_TB ∧ Cond.initialized "java/lang/System" ∈ hb_TB) ∧
    (sort = 7 → Cond.methodLink (ab_my M).cls ix Lib.Math.max.name ∈ hb_TB ∧ Cond.static Lib.Math.max.name ∈ hb_TB ∧ Cond.initialized "java/lang/Math" ∈ hb_TB ∧ Cond.code Lib.Math.max.name Lib.Math.max.code 2 (some .int) ∈ hb_TB) ∧
    (sort = 8 → Cond.methodLink (ab_my M).cls ix Lib.Math.min.name ∈ hb_TB ∧ Cond.static Lib.Math.min.name ∈ hb_TB ∧ Cond.initialized "java/lang/Math" ∈ hb_TB ∧ Cond.code Lib.Math.min.name Lib.Math.min.code 2 (some .int) ∈ hb_TB) ∧
    (sort = 9 → Cond.methodLink (ab_my M).cls ix Lib.MathLoose.min_long.x ∈ hb_TB ∧ Cond.static Lib.MathLoose.min_long.x ∈ hb_TB ∧ Cond.initialized "java/lang/Math" ∈ hb_TB ∧ Cond.code Lib.MathLoose.min_long.x Lib.MathLoose.min_long.code 4 (some .long) ∈ hb_TB) ∧
    (sort < 4 ∨ sort = 6 → ∀ M' : ab_MI, ab_gM (hb_Gx O X) y = some M' → (sort ≠ 3 → Cond.methodLink (ab_my M).cls ix (ab_my M') ∈ hb_TB) ∧ Cond.initialized (ab_my M').cls ∈ hb_TB ∧ ((ab_my M').cls ≠ "java/lang/invoke/MethodHandle" ∧ (ab_my M').cls ≠ "java/lang/invoke/VarHandle" ∧ (parseMethodDescriptor (ab_my M').desc).map (fun d => d.parameters.length) = some na) ∧
      (sort = 0 → Cond.instanceMethod (ab_my M') ∈ hb_TB ∧ Cond.selects (ab_my M').cls (ab_my M') (ab_my M') ∈ hb_TB ∧ ∃ q : vw_C, (ab_gK (hb_Gx O X))[ci]? = some q ∧ q.1 = (ab_my M').cls) ∧
      (sort = 1 → Cond.static (ab_my M') ∈ hb_TB) ∧
      (sort = 6 → Cond.instanceMethod (ab_my M') ∈ hb_TB ∧ Cond.selects (ab_my M').cls (ab_my M') (ab_my M') ∈ hb_TB ∧ (ab_my M').cls = "java/lang/String") ∧
      (sort = 2 ∨ sort = 3 → (ab_my M').name = "<init>" ∧ Cond.instanceMethod (ab_my M') ∈ hb_TB ∧ ab_mr M' = none)) := by
  intro ix sort y na ci h M _ hcl
  rw [hcl]
  unfold hb_T66 at h
  split at h
  · cases h
    refine ⟨fun h => absurd h (by decide), fun h => absurd h (by decide), fun h => absurd h (by decide), fun h => absurd h (by decide), fun h => absurd h (by decide), fun _ M' hM' => ?_⟩
    obtain rfl : mZE22_init = M' := Option.some.inj ((show ab_gM (hb_Gx O X) 17152 = some mZE22_init from rfl).symm.trans hM')
    exact ⟨fun _ => (hb_w9 49 (by decide +kernel)), ca_mZE22_init.1, ca_mZE22_init.2, fun h => absurd h (by decide), fun h => absurd h (by decide), fun h => absurd h (by decide), fun _ => ⟨rfl, ci_mZE22_init, rfl⟩⟩
  · cases h
theorem hb_T67_ok (O : Nat → Option FieldType) (X : ab_X) : ∀ (ix sort y na ci : Nat), hb_T67 ix = some (sort, y, na, ci) → ∀ M : ab_MI, ab_mo M = 67 → (ab_my M).cls = RZE22 →
    (sort = 4 → Cond.methodLink (ab_my M).cls ix objectInit ∈ hb_TB ∧ Cond.instanceMethod objectInit ∈ hb_TB ∧ Cond.code objectInit ⟨#[0xb1]⟩ 1 none ∈ hb_TB) ∧
    (sort = 5 → Cond.methodLink (ab_my M).cls ix arraycopyName ∈ hb_TB ∧ Cond.native arraycopyName ∈ hb_TB ∧ Cond.static arraycopyName ∈ hb_TB ∧ Cond.initialized "java/lang/System" ∈ hb_TB) ∧
    (sort = 7 → Cond.methodLink (ab_my M).cls ix Lib.Math.max.name ∈ hb_TB ∧ Cond.static Lib.Math.max.name ∈ hb_TB ∧ Cond.initialized "java/lang/Math" ∈ hb_TB ∧ Cond.code Lib.Math.max.name Lib.Math.max.code 2 (some .int) ∈ hb_TB) ∧
    (sort = 8 → Cond.methodLink (ab_my M).cls ix Lib.Math.min.name ∈ hb_TB ∧ Cond.static Lib.Math.min.name ∈ hb_TB ∧ Cond.initialized "java/lang/Math" ∈ hb_TB ∧ Cond.code Lib.Math.min.name Lib.Math.min.code 2 (some .int) ∈ hb_TB) ∧
    (sort = 9 → Cond.methodLink (ab_my M).cls ix Lib.MathLoose.min_long.x ∈ hb_TB ∧ Cond.static Lib.MathLoose.min_long.x ∈ hb_TB ∧ Cond.initialized "java/lang/Math" ∈ hb_TB ∧ Cond.code Lib.MathLoose.min_long.x Lib.MathLoose.min_long.code 4 (some .long) ∈ hb_TB) ∧
    (sort < 4 ∨ sort = 6 → ∀ M' : ab_MI, ab_gM (hb_Gx O X) y = some M' → (sort ≠ 3 → Cond.methodLink (ab_my M).cls ix (ab_my M') ∈ hb_TB) ∧ Cond.initialized (ab_my M').cls ∈ hb_TB ∧ ((ab_my M').cls ≠ "java/lang/invoke/MethodHandle" ∧ (ab_my M').cls ≠ "java/lang/invoke/VarHandle" ∧ (parseMethodDescriptor (ab_my M').desc).map (fun d => d.parameters.length) = some na) ∧
      (sort = 0 → Cond.instanceMethod (ab_my M') ∈ hb_TB ∧ Cond.selects (ab_my M').cls (ab_my M') (ab_my M') ∈ hb_TB ∧ ∃ q : vw_C, (ab_gK (hb_Gx O X))[ci]? = some q ∧ q.1 = (ab_my M').cls) ∧
      (sort = 1 → Cond.static (ab_my M') ∈ hb_TB) ∧
      (sort = 6 → Cond.instanceMethod (ab_my M') ∈ hb_TB ∧ Cond.selects (ab_my M').cls (ab_my M') (ab_my M') ∈ hb_TB ∧ (ab_my M').cls = "java/lang/String") ∧
      (sort = 2 ∨ sort = 3 → (ab_my M').name = "<init>" ∧ Cond.instanceMethod (ab_my M') ∈ hb_TB ∧ ab_mr M' = none)) := by
  intro ix sort y na ci h M _ hcl
  rw [hcl]
  unfold hb_T67 at h
  split at h
  · cases h
    refine ⟨fun h => absurd h (by decide), fun h => absurd h (by decide), fun h => absurd h (by decide), fun h => absurd h (by decide), fun h => absurd h (by decide), fun _ M' hM' => ?_⟩
    obtain rfl : mZT22_init = M' := Option.some.inj ((show ab_gM (hb_Gx O X) 17408 = some mZT22_init from rfl).symm.trans hM')
    exact ⟨fun _ => (hb_w9 52 (by decide +kernel)), ca_mZT22_init.1, ca_mZT22_init.2, fun h => absurd h (by decide), fun h => absurd h (by decide), fun h => absurd h (by decide), fun _ => ⟨rfl, ci_mZT22_init, rfl⟩⟩
  · cases h
theorem hb_T68_ok (O : Nat → Option FieldType) (X : ab_X) : ∀ (ix sort y na ci : Nat), hb_T68 ix = some (sort, y, na, ci) → ∀ M : ab_MI, ab_mo M = 68 → (ab_my M).cls = RZT22 →
    (sort = 4 → Cond.methodLink (ab_my M).cls ix objectInit ∈ hb_TB ∧ Cond.instanceMethod objectInit ∈ hb_TB ∧ Cond.code objectInit ⟨#[0xb1]⟩ 1 none ∈ hb_TB) ∧
    (sort = 5 → Cond.methodLink (ab_my M).cls ix arraycopyName ∈ hb_TB ∧ Cond.native arraycopyName ∈ hb_TB ∧ Cond.static arraycopyName ∈ hb_TB ∧ Cond.initialized "java/lang/System" ∈ hb_TB) ∧
    (sort = 7 → Cond.methodLink (ab_my M).cls ix Lib.Math.max.name ∈ hb_TB ∧ Cond.static Lib.Math.max.name ∈ hb_TB ∧ Cond.initialized "java/lang/Math" ∈ hb_TB ∧ Cond.code Lib.Math.max.name Lib.Math.max.code 2 (some .int) ∈ hb_TB) ∧
    (sort = 8 → Cond.methodLink (ab_my M).cls ix Lib.Math.min.name ∈ hb_TB ∧ Cond.static Lib.Math.min.name ∈ hb_TB ∧ Cond.initialized "java/lang/Math" ∈ hb_TB ∧ Cond.code Lib.Math.min.name Lib.Math.min.code 2 (some .int) ∈ hb_TB) ∧
    (sort = 9 → Cond.methodLink (ab_my M).cls ix Lib.MathLoose.min_long.x ∈ hb_TB ∧ Cond.static Lib.MathLoose.min_long.x ∈ hb_TB ∧ Cond.initialized "java/lang/Math" ∈ hb_TB ∧ Cond.code Lib.MathLoose.min_long.x Lib.MathLoose.min_long.code 4 (some .long) ∈ hb_TB) ∧
    (sort < 4 ∨ sort = 6 → ∀ M' : ab_MI, ab_gM (hb_Gx O X) y = some M' → (sort ≠ 3 → Cond.methodLink (ab_my M).cls ix (ab_my M') ∈ hb_TB) ∧ Cond.initialized (ab_my M').cls ∈ hb_TB ∧ ((ab_my M').cls ≠ "java/lang/invoke/MethodHandle" ∧ (ab_my M').cls ≠ "java/lang/invoke/VarHandle" ∧ (parseMethodDescriptor (ab_my M').desc).map (fun d => d.parameters.length) = some na) ∧
      (sort = 0 → Cond.instanceMethod (ab_my M') ∈ hb_TB ∧ Cond.selects (ab_my M').cls (ab_my M') (ab_my M') ∈ hb_TB ∧ ∃ q : vw_C, (ab_gK (hb_Gx O X))[ci]? = some q ∧ q.1 = (ab_my M').cls) ∧
      (sort = 1 → Cond.static (ab_my M') ∈ hb_TB) ∧
      (sort = 6 → Cond.instanceMethod (ab_my M') ∈ hb_TB ∧ Cond.selects (ab_my M').cls (ab_my M') (ab_my M') ∈ hb_TB ∧ (ab_my M').cls = "java/lang/String") ∧
      (sort = 2 ∨ sort = 3 → (ab_my M').name = "<init>" ∧ Cond.instanceMethod (ab_my M') ∈ hb_TB ∧ ab_mr M' = none)) := by
  intro ix sort y na ci h M _ hcl
  rw [hcl]
  unfold hb_T68 at h
  split at h
  · cases h
    exact ⟨fun _ => ⟨(hb_w6 41 (by decide +kernel)), ca_obj.1, ca_obj.2⟩, fun h => absurd h (by decide), fun h => absurd h (by decide), fun h => absurd h (by decide), fun h => absurd h (by decide), fun h => absurd h (by decide)⟩
  · cases h
theorem hb_T52_ok (O : Nat → Option FieldType) (X : ab_X) : ∀ (ix sort y na ci : Nat), hb_T52 ix = some (sort, y, na, ci) → ∀ M : ab_MI, ab_mo M = 52 → (ab_my M).cls = RL →
    (sort = 4 → Cond.methodLink (ab_my M).cls ix objectInit ∈ hb_TB ∧ Cond.instanceMethod objectInit ∈ hb_TB ∧ Cond.code objectInit ⟨#[0xb1]⟩ 1 none ∈ hb_TB) ∧
    (sort = 5 → Cond.methodLink (ab_my M).cls ix arraycopyName ∈ hb_TB ∧ Cond.native arraycopyName ∈ hb_TB ∧ Cond.static arraycopyName ∈ hb_TB ∧ Cond.initialized "java/lang/System" ∈ hb_TB) ∧
    (sort = 7 → Cond.methodLink (ab_my M).cls ix Lib.Math.max.name ∈ hb_TB ∧ Cond.static Lib.Math.max.name ∈ hb_TB ∧ Cond.initialized "java/lang/Math" ∈ hb_TB ∧ Cond.code Lib.Math.max.name Lib.Math.max.code 2 (some .int) ∈ hb_TB) ∧
    (sort = 8 → Cond.methodLink (ab_my M).cls ix Lib.Math.min.name ∈ hb_TB ∧ Cond.static Lib.Math.min.name ∈ hb_TB ∧ Cond.initialized "java/lang/Math" ∈ hb_TB ∧ Cond.code Lib.Math.min.name Lib.Math.min.code 2 (some .int) ∈ hb_TB) ∧
    (sort = 9 → Cond.methodLink (ab_my M).cls ix Lib.MathLoose.min_long.x ∈ hb_TB ∧ Cond.static Lib.MathLoose.min_long.x ∈ hb_TB ∧ Cond.initialized "java/lang/Math" ∈ hb_TB ∧ Cond.code Lib.MathLoose.min_long.x Lib.MathLoose.min_long.code 4 (some .long) ∈ hb_TB) ∧
    (sort < 4 ∨ sort = 6 → ∀ M' : ab_MI, ab_gM (hb_Gx O X) y = some M' → (sort ≠ 3 → Cond.methodLink (ab_my M).cls ix (ab_my M') ∈ hb_TB) ∧ Cond.initialized (ab_my M').cls ∈ hb_TB ∧ ((ab_my M').cls ≠ "java/lang/invoke/MethodHandle" ∧ (ab_my M').cls ≠ "java/lang/invoke/VarHandle" ∧ (parseMethodDescriptor (ab_my M').desc).map (fun d => d.parameters.length) = some na) ∧
      (sort = 0 → Cond.instanceMethod (ab_my M') ∈ hb_TB ∧ Cond.selects (ab_my M').cls (ab_my M') (ab_my M') ∈ hb_TB ∧ ∃ q : vw_C, (ab_gK (hb_Gx O X))[ci]? = some q ∧ q.1 = (ab_my M').cls) ∧
      (sort = 1 → Cond.static (ab_my M') ∈ hb_TB) ∧
      (sort = 6 → Cond.instanceMethod (ab_my M') ∈ hb_TB ∧ Cond.selects (ab_my M').cls (ab_my M') (ab_my M') ∈ hb_TB ∧ (ab_my M').cls = "java/lang/String") ∧
      (sort = 2 ∨ sort = 3 → (ab_my M').name = "<init>" ∧ Cond.instanceMethod (ab_my M') ∈ hb_TB ∧ ab_mr M' = none)) := by
  intro ix sort y na ci h M _ hcl
  rw [hcl]
  unfold hb_T52 at h
  split at h
  · cases h
    refine ⟨fun h => absurd h (by decide), fun h => absurd h (by decide), fun h => absurd h (by decide), fun h => absurd h (by decide), fun h => absurd h (by decide), fun _ M' hM' => ?_⟩
    obtain rfl : mX12_feed = M' := Option.some.inj ((show ab_gM (hb_Gx O X) 3073 = some mX12_feed from rfl).symm.trans hM')
    exact ⟨fun _ => (hb_w6 12 (by decide +kernel)), ca_mX12_feed.1, ca_mX12_feed.2, fun _ => ⟨ci_mX12_feed, cs_mX12_feed, _, rfl, rfl⟩, fun h => absurd h (by decide), fun h => absurd h (by decide), fun h => absurd h (by decide)⟩
  · cases h
    refine ⟨fun h => absurd h (by decide), fun h => absurd h (by decide), fun h => absurd h (by decide), fun h => absurd h (by decide), fun h => absurd h (by decide), fun _ M' hM' => ?_⟩
    obtain rfl : mX12_end = M' := Option.some.inj ((show ab_gM (hb_Gx O X) 3075 = some mX12_end from rfl).symm.trans hM')
    exact ⟨fun _ => (hb_w6 100 (by decide +kernel)), ca_mX12_end.1, ca_mX12_end.2, fun _ => ⟨ci_mX12_end, cs_mX12_end, _, rfl, rfl⟩, fun h => absurd h (by decide), fun h => absurd h (by decide), fun h => absurd h (by decide)⟩
  · cases h
    refine ⟨fun h => absurd h (by decide), fun h => absurd h (by decide), fun h => absurd h (by decide), fun h => absurd h (by decide), fun h => absurd h (by decide), fun _ M' hM' => ?_⟩
    obtain rfl : mX12_drop = M' := Option.some.inj ((show ab_gM (hb_Gx O X) 3079 = some mX12_drop from rfl).symm.trans hM')
    exact ⟨fun _ => (hb_w6 122 (by decide +kernel)), ca_mX12_drop.1, ca_mX12_drop.2, fun _ => ⟨ci_mX12_drop, cs_mX12_drop, _, rfl, rfl⟩, fun h => absurd h (by decide), fun h => absurd h (by decide), fun h => absurd h (by decide)⟩
  · cases h
    refine ⟨fun h => absurd h (by decide), fun h => absurd h (by decide), fun h => absurd h (by decide), fun h => absurd h (by decide), fun h => absurd h (by decide), fun _ M' hM' => ?_⟩
    obtain rfl : mX12_set = M' := Option.some.inj ((show ab_gM (hb_Gx O X) 3080 = some mX12_set from rfl).symm.trans hM')
    exact ⟨fun _ => (hb_w6 131 (by decide +kernel)), ca_mX12_set.1, ca_mX12_set.2, fun _ => ⟨ci_mX12_set, cs_mX12_set, _, rfl, rfl⟩, fun h => absurd h (by decide), fun h => absurd h (by decide), fun h => absurd h (by decide)⟩
  · cases h
    refine ⟨fun h => absurd h (by decide), fun h => absurd h (by decide), fun h => absurd h (by decide), fun h => absurd h (by decide), fun h => absurd h (by decide), fun _ M' hM' => ?_⟩
    obtain rfl : mX12_count = M' := Option.some.inj ((show ab_gM (hb_Gx O X) 3081 = some mX12_count from rfl).symm.trans hM')
    exact ⟨fun _ => (hb_w6 139 (by decide +kernel)), ca_mX12_count.1, ca_mX12_count.2, fun _ => ⟨ci_mX12_count, cs_mX12_count, _, rfl, rfl⟩, fun h => absurd h (by decide), fun h => absurd h (by decide), fun h => absurd h (by decide)⟩
  · cases h
    refine ⟨fun h => absurd h (by decide), fun h => absurd h (by decide), fun h => absurd h (by decide), fun h => absurd h (by decide), fun h => absurd h (by decide), fun _ M' hM' => ?_⟩
    obtain rfl : mX12_below = M' := Option.some.inj ((show ab_gM (hb_Gx O X) 3082 = some mX12_below from rfl).symm.trans hM')
    exact ⟨fun _ => (hb_w6 146 (by decide +kernel)), ca_mX12_below.1, ca_mX12_below.2, fun _ => ⟨ci_mX12_below, cs_mX12_below, _, rfl, rfl⟩, fun h => absurd h (by decide), fun h => absurd h (by decide), fun h => absurd h (by decide)⟩
  · cases h
    refine ⟨fun h => absurd h (by decide), fun h => absurd h (by decide), fun h => absurd h (by decide), fun h => absurd h (by decide), fun h => absurd h (by decide), fun _ M' hM' => ?_⟩
    obtain rfl : mX12_row = M' := Option.some.inj ((show ab_gM (hb_Gx O X) 3083 = some mX12_row from rfl).symm.trans hM')
    exact ⟨fun _ => (hb_w6 158 (by decide +kernel)), ca_mX12_row.1, ca_mX12_row.2, fun _ => ⟨ci_mX12_row, cs_mX12_row, _, rfl, rfl⟩, fun h => absurd h (by decide), fun h => absurd h (by decide), fun h => absurd h (by decide)⟩
  · cases h
    refine ⟨fun h => absurd h (by decide), fun h => absurd h (by decide), fun h => absurd h (by decide), fun h => absurd h (by decide), fun h => absurd h (by decide), fun _ M' hM' => ?_⟩
    obtain rfl : mX12_nearer = M' := Option.some.inj ((show ab_gM (hb_Gx O X) 3084 = some mX12_nearer from rfl).symm.trans hM')
    exact ⟨fun _ => (hb_w6 166 (by decide +kernel)), ca_mX12_nearer.1, ca_mX12_nearer.2, fun _ => ⟨ci_mX12_nearer, cs_mX12_nearer, _, rfl, rfl⟩, fun h => absurd h (by decide), fun h => absurd h (by decide), fun h => absurd h (by decide)⟩
  · cases h
    refine ⟨fun h => absurd h (by decide), fun h => absurd h (by decide), fun h => absurd h (by decide), fun h => absurd h (by decide), fun h => absurd h (by decide), fun _ M' hM' => ?_⟩
    obtain rfl : mX12_call = M' := Option.some.inj ((show ab_gM (hb_Gx O X) 3085 = some mX12_call from rfl).symm.trans hM')
    exact ⟨fun _ => (hb_w7 3 (by decide +kernel)), ca_mX12_call.1, ca_mX12_call.2, fun _ => ⟨ci_mX12_call, cs_mX12_call, _, rfl, rfl⟩, fun h => absurd h (by decide), fun h => absurd h (by decide), fun h => absurd h (by decide)⟩
  · cases h
    refine ⟨fun h => absurd h (by decide), fun h => absurd h (by decide), fun h => absurd h (by decide), fun h => absurd h (by decide), fun h => absurd h (by decide), fun _ M' hM' => ?_⟩
    obtain rfl : mX12_run = M' := Option.some.inj ((show ab_gM (hb_Gx O X) 3086 = some mX12_run from rfl).symm.trans hM')
    exact ⟨fun _ => (hb_w7 121 (by decide +kernel)), ca_mX12_run.1, ca_mX12_run.2, fun _ => ⟨ci_mX12_run, cs_mX12_run, _, rfl, rfl⟩, fun h => absurd h (by decide), fun h => absurd h (by decide), fun h => absurd h (by decide)⟩
  · cases h
    refine ⟨fun h => absurd h (by decide), fun h => absurd h (by decide), fun h => absurd h (by decide), fun h => absurd h (by decide), fun h => absurd h (by decide), fun _ M' hM' => ?_⟩
    obtain rfl : mX12_told = M' := Option.some.inj ((show ab_gM (hb_Gx O X) 3087 = some mX12_told from rfl).symm.trans hM')
    exact ⟨fun _ => (hb_w8 70 (by decide +kernel)), ca_mX12_told.1, ca_mX12_told.2, fun _ => ⟨ci_mX12_told, cs_mX12_told, _, rfl, rfl⟩, fun h => absurd h (by decide), fun h => absurd h (by decide), fun h => absurd h (by decide)⟩
  · cases h
    refine ⟨fun h => absurd h (by decide), fun h => absurd h (by decide), fun h => absurd h (by decide), fun h => absurd h (by decide), fun h => absurd h (by decide), fun _ M' hM' => ?_⟩
    obtain rfl : mX12_shown = M' := Option.some.inj ((show ab_gM (hb_Gx O X) 3088 = some mX12_shown from rfl).symm.trans hM')
    exact ⟨fun _ => (hb_w8 78 (by decide +kernel)), ca_mX12_shown.1, ca_mX12_shown.2, fun _ => ⟨ci_mX12_shown, cs_mX12_shown, _, rfl, rfl⟩, fun h => absurd h (by decide), fun h => absurd h (by decide), fun h => absurd h (by decide)⟩
  · cases h
    refine ⟨fun h => absurd h (by decide), fun h => absurd h (by decide), fun h => absurd h (by decide), fun h => absurd h (by decide), fun h => absurd h (by decide), fun _ M' hM' => ?_⟩
    obtain rfl : mX12_ran = M' := Option.some.inj ((show ab_gM (hb_Gx O X) 3089 = some mX12_ran from rfl).symm.trans hM')
    exact ⟨fun _ => (hb_w8 85 (by decide +kernel)), ca_mX12_ran.1, ca_mX12_ran.2, fun _ => ⟨ci_mX12_ran, cs_mX12_ran, _, rfl, rfl⟩, fun h => absurd h (by decide), fun h => absurd h (by decide), fun h => absurd h (by decide)⟩
  · cases h
    refine ⟨fun h => absurd h (by decide), fun h => absurd h (by decide), fun h => absurd h (by decide), fun h => absurd h (by decide), fun h => absurd h (by decide), fun _ M' hM' => ?_⟩
    obtain rfl : mX12_word = M' := Option.some.inj ((show ab_gM (hb_Gx O X) 3090 = some mX12_word from rfl).symm.trans hM')
    exact ⟨fun _ => (hb_w8 93 (by decide +kernel)), ca_mX12_word.1, ca_mX12_word.2, fun _ => ⟨ci_mX12_word, cs_mX12_word, _, rfl, rfl⟩, fun h => absurd h (by decide), fun h => absurd h (by decide), fun h => absurd h (by decide)⟩
  · cases h
    refine ⟨fun h => absurd h (by decide), fun h => absurd h (by decide), fun h => absurd h (by decide), fun h => absurd h (by decide), fun h => absurd h (by decide), fun _ M' hM' => ?_⟩
    obtain rfl : mX12_init = M' := Option.some.inj ((show ab_gM (hb_Gx O X) 3072 = some mX12_init from rfl).symm.trans hM')
    exact ⟨fun _ => (hb_w1 48 (by decide +kernel)), ca_mX12_init.1, ca_mX12_init.2, fun h => absurd h (by decide), fun h => absurd h (by decide), fun h => absurd h (by decide), fun _ => ⟨rfl, ci_mX12_init, rfl⟩⟩
  · cases h
    refine ⟨fun h => absurd h (by decide), fun h => absurd h (by decide), fun h => absurd h (by decide), fun h => absurd h (by decide), fun h => absurd h (by decide), fun _ M' hM' => ?_⟩
    obtain rfl : mX23_init = M' := Option.some.inj ((show ab_gM (hb_Gx O X) 5989 = some mX23_init from rfl).symm.trans hM')
    exact ⟨fun _ => (hb_w8 103 (by decide +kernel)), ca_mX23_init.1, ca_mX23_init.2, fun h => absurd h (by decide), fun h => absurd h (by decide), fun h => absurd h (by decide), fun _ => ⟨rfl, ci_mX23_init, rfl⟩⟩
  · cases h
    exact ⟨fun h => absurd h (by decide), fun h => absurd h (by decide), fun h => absurd h (by decide), fun h => absurd h (by decide), fun h => absurd h (by decide), fun _ M' hM' => by cases (show ab_gM (hb_Gx O X) 13512 = none from rfl).symm.trans hM'⟩
  · cases h
    refine ⟨fun h => absurd h (by decide), fun h => absurd h (by decide), fun h => absurd h (by decide), fun h => absurd h (by decide), fun h => absurd h (by decide), fun _ M' hM' => ?_⟩
    obtain rfl : mX23_feed = M' := Option.some.inj ((show ab_gM (hb_Gx O X) 5994 = some mX23_feed from rfl).symm.trans hM')
    exact ⟨fun _ => (hb_w11 10 (by decide +kernel)), ca_mX23_feed.1, ca_mX23_feed.2, fun _ => ⟨ci_mX23_feed, cs_mX23_feed, _, rfl, rfl⟩, fun h => absurd h (by decide), fun h => absurd h (by decide), fun h => absurd h (by decide)⟩
  · cases h
    refine ⟨fun h => absurd h (by decide), fun h => absurd h (by decide), fun h => absurd h (by decide), fun h => absurd h (by decide), fun h => absurd h (by decide), fun _ M' hM' => ?_⟩
    obtain rfl : mX23_thrown = M' := Option.some.inj ((show ab_gM (hb_Gx O X) 5992 = some mX23_thrown from rfl).symm.trans hM')
    exact ⟨fun _ => (hb_w11 6 (by decide +kernel)), ca_mX23_thrown.1, ca_mX23_thrown.2, fun _ => ⟨ci_mX23_thrown, cs_mX23_thrown, _, rfl, rfl⟩, fun h => absurd h (by decide), fun h => absurd h (by decide), fun h => absurd h (by decide)⟩
  · cases h
    exact ⟨fun h => absurd h (by decide), fun h => absurd h (by decide), fun h => absurd h (by decide), fun h => absurd h (by decide), fun h => absurd h (by decide), fun _ M' hM' => by cases (show ab_gM (hb_Gx O X) 13513 = none from rfl).symm.trans hM'⟩
  · cases h
    refine ⟨fun h => absurd h (by decide), fun h => absurd h (by decide), fun h => absurd h (by decide), fun h => absurd h (by decide), fun h => absurd h (by decide), fun _ M' hM' => ?_⟩
    obtain rfl : mX23_end = M' := Option.some.inj ((show ab_gM (hb_Gx O X) 5996 = some mX23_end from rfl).symm.trans hM')
    exact ⟨fun _ => (hb_w11 22 (by decide +kernel)), ca_mX23_end.1, ca_mX23_end.2, fun _ => ⟨ci_mX23_end, cs_mX23_end, _, rfl, rfl⟩, fun h => absurd h (by decide), fun h => absurd h (by decide), fun h => absurd h (by decide)⟩
  · cases h
    refine ⟨fun h => absurd h (by decide), fun h => absurd h (by decide), fun h => absurd h (by decide), fun h => absurd h (by decide), fun h => absurd h (by decide), fun _ M' hM' => ?_⟩
    obtain rfl : mX12_tell = M' := Option.some.inj ((show ab_gM (hb_Gx O X) 3076 = some mX12_tell from rfl).symm.trans hM')
    exact ⟨fun _ => (hb_w4 145 (by decide +kernel)), ca_mX12_tell.1, ca_mX12_tell.2, fun _ => ⟨ci_mX12_tell, cs_mX12_tell, _, rfl, rfl⟩, fun h => absurd h (by decide), fun h => absurd h (by decide), fun h => absurd h (by decide)⟩
  · cases h
    exact ⟨fun h => absurd h (by decide), fun h => absurd h (by decide), fun h => absurd h (by decide), fun h => absurd h (by decide), fun h => absurd h (by decide), fun _ M' hM' => by cases (show ab_gM (hb_Gx O X) 6092 = none from rfl).symm.trans hM'⟩
  · cases h
    refine ⟨fun h => absurd h (by decide), fun h => absurd h (by decide), fun h => absurd h (by decide), fun h => absurd h (by decide), fun h => absurd h (by decide), fun _ M' hM' => ?_⟩
    obtain rfl : mX12_program = M' := Option.some.inj ((show ab_gM (hb_Gx O X) 3077 = some mX12_program from rfl).symm.trans hM')
    exact ⟨fun _ => (hb_w5 227 (by decide +kernel)), ca_mX12_program.1, ca_mX12_program.2, fun _ => ⟨ci_mX12_program, cs_mX12_program, _, rfl, rfl⟩, fun h => absurd h (by decide), fun h => absurd h (by decide), fun h => absurd h (by decide)⟩
  · cases h
    exact ⟨fun h => absurd h (by decide), fun h => absurd h (by decide), fun h => absurd h (by decide), fun h => absurd h (by decide), fun h => absurd h (by decide), fun _ M' hM' => by cases (show ab_gM (hb_Gx O X) 6093 = none from rfl).symm.trans hM'⟩
  · cases h
    refine ⟨fun h => absurd h (by decide), fun h => absurd h (by decide), fun h => absurd h (by decide), fun h => absurd h (by decide), fun h => absurd h (by decide), fun _ M' hM' => ?_⟩
    obtain rfl : mX12_clear = M' := Option.some.inj ((show ab_gM (hb_Gx O X) 3078 = some mX12_clear from rfl).symm.trans hM')
    exact ⟨fun _ => (hb_w5 235 (by decide +kernel)), ca_mX12_clear.1, ca_mX12_clear.2, fun _ => ⟨ci_mX12_clear, cs_mX12_clear, _, rfl, rfl⟩, fun h => absurd h (by decide), fun h => absurd h (by decide), fun h => absurd h (by decide)⟩
  · cases h
    refine ⟨fun h => absurd h (by decide), fun h => absurd h (by decide), fun h => absurd h (by decide), fun h => absurd h (by decide), fun h => absurd h (by decide), fun _ M' hM' => ?_⟩
    obtain rfl : mX23_clear = M' := Option.some.inj ((show ab_gM (hb_Gx O X) 5997 = some mX23_clear from rfl).symm.trans hM')
    exact ⟨fun _ => (hb_w12 195 (by decide +kernel)), ca_mX23_clear.1, ca_mX23_clear.2, fun _ => ⟨ci_mX23_clear, cs_mX23_clear, _, rfl, rfl⟩, fun h => absurd h (by decide), fun h => absurd h (by decide), fun h => absurd h (by decide)⟩
  · cases h
    exact ⟨fun h => absurd h (by decide), fun h => absurd h (by decide), fun h => absurd h (by decide), fun h => absurd h (by decide), fun h => absurd h (by decide), fun _ M' hM' => by cases (show ab_gM (hb_Gx O X) 13514 = none from rfl).symm.trans hM'⟩
  · cases h
    refine ⟨fun h => absurd h (by decide), fun h => absurd h (by decide), fun h => absurd h (by decide), fun h => absurd h (by decide), fun h => absurd h (by decide), fun _ M' hM' => ?_⟩
    obtain rfl : mX23_drop = M' := Option.some.inj ((show ab_gM (hb_Gx O X) 5998 = some mX23_drop from rfl).symm.trans hM')
    exact ⟨fun _ => (hb_w12 199 (by decide +kernel)), ca_mX23_drop.1, ca_mX23_drop.2, fun _ => ⟨ci_mX23_drop, cs_mX23_drop, _, rfl, rfl⟩, fun h => absurd h (by decide), fun h => absurd h (by decide), fun h => absurd h (by decide)⟩
  · cases h
    exact ⟨fun h => absurd h (by decide), fun h => absurd h (by decide), fun h => absurd h (by decide), fun h => absurd h (by decide), fun h => absurd h (by decide), fun _ M' hM' => by cases (show ab_gM (hb_Gx O X) 13515 = none from rfl).symm.trans hM'⟩
  · cases h
    refine ⟨fun h => absurd h (by decide), fun h => absurd h (by decide), fun h => absurd h (by decide), fun h => absurd h (by decide), fun h => absurd h (by decide), fun _ M' hM' => ?_⟩
    obtain rfl : mX23_set = M' := Option.some.inj ((show ab_gM (hb_Gx O X) 5999 = some mX23_set from rfl).symm.trans hM')
    exact ⟨fun _ => (hb_w12 203 (by decide +kernel)), ca_mX23_set.1, ca_mX23_set.2, fun _ => ⟨ci_mX23_set, cs_mX23_set, _, rfl, rfl⟩, fun h => absurd h (by decide), fun h => absurd h (by decide), fun h => absurd h (by decide)⟩
  · cases h
    exact ⟨fun h => absurd h (by decide), fun h => absurd h (by decide), fun h => absurd h (by decide), fun h => absurd h (by decide), fun h => absurd h (by decide), fun _ M' hM' => by cases (show ab_gM (hb_Gx O X) 13516 = none from rfl).symm.trans hM'⟩
  · cases h
    refine ⟨fun h => absurd h (by decide), fun h => absurd h (by decide), fun h => absurd h (by decide), fun h => absurd h (by decide), fun h => absurd h (by decide), fun _ M' hM' => ?_⟩
    obtain rfl : mX23_count = M' := Option.some.inj ((show ab_gM (hb_Gx O X) 6000 = some mX23_count from rfl).symm.trans hM')
    exact ⟨fun _ => (hb_w12 208 (by decide +kernel)), ca_mX23_count.1, ca_mX23_count.2, fun _ => ⟨ci_mX23_count, cs_mX23_count, _, rfl, rfl⟩, fun h => absurd h (by decide), fun h => absurd h (by decide), fun h => absurd h (by decide)⟩
  · cases h
    exact ⟨fun h => absurd h (by decide), fun h => absurd h (by decide), fun h => absurd h (by decide), fun h => absurd h (by decide), fun h => absurd h (by decide), fun _ M' hM' => by cases (show ab_gM (hb_Gx O X) 13517 = none from rfl).symm.trans hM'⟩
  · cases h
    refine ⟨fun h => absurd h (by decide), fun h => absurd h (by decide), fun h => absurd h (by decide), fun h => absurd h (by decide), fun h => absurd h (by decide), fun _ M' hM' => ?_⟩
    obtain rfl : mX23_below = M' := Option.some.inj ((show ab_gM (hb_Gx O X) 6002 = some mX23_below from rfl).symm.trans hM')
    exact ⟨fun _ => (hb_w12 212 (by decide +kernel)), ca_mX23_below.1, ca_mX23_below.2, fun _ => ⟨ci_mX23_below, cs_mX23_below, _, rfl, rfl⟩, fun h => absurd h (by decide), fun h => absurd h (by decide), fun h => absurd h (by decide)⟩
  · cases h
    exact ⟨fun h => absurd h (by decide), fun h => absurd h (by decide), fun h => absurd h (by decide), fun h => absurd h (by decide), fun h => absurd h (by decide), fun _ M' hM' => by cases (show ab_gM (hb_Gx O X) 13518 = none from rfl).symm.trans hM'⟩
  · cases h
    refine ⟨fun h => absurd h (by decide), fun h => absurd h (by decide), fun h => absurd h (by decide), fun h => absurd h (by decide), fun h => absurd h (by decide), fun _ M' hM' => ?_⟩
    obtain rfl : mX23_row = M' := Option.some.inj ((show ab_gM (hb_Gx O X) 6003 = some mX23_row from rfl).symm.trans hM')
    exact ⟨fun _ => (hb_w12 220 (by decide +kernel)), ca_mX23_row.1, ca_mX23_row.2, fun _ => ⟨ci_mX23_row, cs_mX23_row, _, rfl, rfl⟩, fun h => absurd h (by decide), fun h => absurd h (by decide), fun h => absurd h (by decide)⟩
  · cases h
    exact ⟨fun h => absurd h (by decide), fun h => absurd h (by decide), fun h => absurd h (by decide), fun h => absurd h (by decide), fun h => absurd h (by decide), fun _ M' hM' => by cases (show ab_gM (hb_Gx O X) 13519 = none from rfl).symm.trans hM'⟩
  · cases h
    refine ⟨fun h => absurd h (by decide), fun h => absurd h (by decide), fun h => absurd h (by decide), fun h => absurd h (by decide), fun h => absurd h (by decide), fun _ M' hM' => ?_⟩
    obtain rfl : mX23_nearer_ = M' := Option.some.inj ((show ab_gM (hb_Gx O X) 6004 = some mX23_nearer_ from rfl).symm.trans hM')
    exact ⟨fun _ => (hb_w12 224 (by decide +kernel)), ca_mX23_nearer_.1, ca_mX23_nearer_.2, fun _ => ⟨ci_mX23_nearer_, cs_mX23_nearer_, _, rfl, rfl⟩, fun h => absurd h (by decide), fun h => absurd h (by decide), fun h => absurd h (by decide)⟩
  · cases h
    exact ⟨fun h => absurd h (by decide), fun h => absurd h (by decide), fun h => absurd h (by decide), fun h => absurd h (by decide), fun h => absurd h (by decide), fun _ M' hM' => by cases (show ab_gM (hb_Gx O X) 13520 = none from rfl).symm.trans hM'⟩
  · cases h
    refine ⟨fun h => absurd h (by decide), fun h => absurd h (by decide), fun h => absurd h (by decide), fun h => absurd h (by decide), fun h => absurd h (by decide), fun _ M' hM' => ?_⟩
    obtain rfl : mX23_call_ = M' := Option.some.inj ((show ab_gM (hb_Gx O X) 6005 = some mX23_call_ from rfl).symm.trans hM')
    exact ⟨fun _ => (hb_w13 42 (by decide +kernel)), ca_mX23_call_.1, ca_mX23_call_.2, fun _ => ⟨ci_mX23_call_, cs_mX23_call_, _, rfl, rfl⟩, fun h => absurd h (by decide), fun h => absurd h (by decide), fun h => absurd h (by decide)⟩
  · cases h
    exact ⟨fun h => absurd h (by decide), fun h => absurd h (by decide), fun h => absurd h (by decide), fun h => absurd h (by decide), fun h => absurd h (by decide), fun _ M' hM' => by cases (show ab_gM (hb_Gx O X) 13521 = none from rfl).symm.trans hM'⟩
  · cases h
    refine ⟨fun h => absurd h (by decide), fun h => absurd h (by decide), fun h => absurd h (by decide), fun h => absurd h (by decide), fun h => absurd h (by decide), fun _ M' hM' => ?_⟩
    obtain rfl : mX23_run = M' := Option.some.inj ((show ab_gM (hb_Gx O X) 6006 = some mX23_run from rfl).symm.trans hM')
    exact ⟨fun _ => (hb_w13 126 (by decide +kernel)), ca_mX23_run.1, ca_mX23_run.2, fun _ => ⟨ci_mX23_run, cs_mX23_run, _, rfl, rfl⟩, fun h => absurd h (by decide), fun h => absurd h (by decide), fun h => absurd h (by decide)⟩
  · cases h
    exact ⟨fun h => absurd h (by decide), fun h => absurd h (by decide), fun h => absurd h (by decide), fun h => absurd h (by decide), fun h => absurd h (by decide), fun _ M' hM' => by cases (show ab_gM (hb_Gx O X) 13522 = none from rfl).symm.trans hM'⟩
  · cases h
    refine ⟨fun h => absurd h (by decide), fun h => absurd h (by decide), fun h => absurd h (by decide), fun h => absurd h (by decide), fun h => absurd h (by decide), fun _ M' hM' => ?_⟩
    obtain rfl : mX23_told = M' := Option.some.inj ((show ab_gM (hb_Gx O X) 6007 = some mX23_told from rfl).symm.trans hM')
    exact ⟨fun _ => (hb_w13 216 (by decide +kernel)), ca_mX23_told.1, ca_mX23_told.2, fun _ => ⟨ci_mX23_told, cs_mX23_told, _, rfl, rfl⟩, fun h => absurd h (by decide), fun h => absurd h (by decide), fun h => absurd h (by decide)⟩
  · cases h
    exact ⟨fun h => absurd h (by decide), fun h => absurd h (by decide), fun h => absurd h (by decide), fun h => absurd h (by decide), fun h => absurd h (by decide), fun _ M' hM' => by cases (show ab_gM (hb_Gx O X) 13523 = none from rfl).symm.trans hM'⟩
  · cases h
    refine ⟨fun h => absurd h (by decide), fun h => absurd h (by decide), fun h => absurd h (by decide), fun h => absurd h (by decide), fun h => absurd h (by decide), fun _ M' hM' => ?_⟩
    obtain rfl : mX23_shown = M' := Option.some.inj ((show ab_gM (hb_Gx O X) 6008 = some mX23_shown from rfl).symm.trans hM')
    exact ⟨fun _ => (hb_w13 220 (by decide +kernel)), ca_mX23_shown.1, ca_mX23_shown.2, fun _ => ⟨ci_mX23_shown, cs_mX23_shown, _, rfl, rfl⟩, fun h => absurd h (by decide), fun h => absurd h (by decide), fun h => absurd h (by decide)⟩
  · cases h
    exact ⟨fun h => absurd h (by decide), fun h => absurd h (by decide), fun h => absurd h (by decide), fun h => absurd h (by decide), fun h => absurd h (by decide), fun _ M' hM' => by cases (show ab_gM (hb_Gx O X) 13524 = none from rfl).symm.trans hM'⟩
  · cases h
    refine ⟨fun h => absurd h (by decide), fun h => absurd h (by decide), fun h => absurd h (by decide), fun h => absurd h (by decide), fun h => absurd h (by decide), fun _ M' hM' => ?_⟩
    obtain rfl : mX23_ran = M' := Option.some.inj ((show ab_gM (hb_Gx O X) 6009 = some mX23_ran from rfl).symm.trans hM')
    exact ⟨fun _ => (hb_w13 224 (by decide +kernel)), ca_mX23_ran.1, ca_mX23_ran.2, fun _ => ⟨ci_mX23_ran, cs_mX23_ran, _, rfl, rfl⟩, fun h => absurd h (by decide), fun h => absurd h (by decide), fun h => absurd h (by decide)⟩
  · cases h
    exact ⟨fun h => absurd h (by decide), fun h => absurd h (by decide), fun h => absurd h (by decide), fun h => absurd h (by decide), fun h => absurd h (by decide), fun _ M' hM' => by cases (show ab_gM (hb_Gx O X) 13525 = none from rfl).symm.trans hM'⟩
  · cases h
    refine ⟨fun h => absurd h (by decide), fun h => absurd h (by decide), fun h => absurd h (by decide), fun h => absurd h (by decide), fun h => absurd h (by decide), fun _ M' hM' => ?_⟩
    obtain rfl : mX23_word__ = M' := Option.some.inj ((show ab_gM (hb_Gx O X) 6010 = some mX23_word__ from rfl).symm.trans hM')
    exact ⟨fun _ => (hb_w13 228 (by decide +kernel)), ca_mX23_word__.1, ca_mX23_word__.2, fun _ => ⟨ci_mX23_word__, cs_mX23_word__, _, rfl, rfl⟩, fun h => absurd h (by decide), fun h => absurd h (by decide), fun h => absurd h (by decide)⟩
  · cases h

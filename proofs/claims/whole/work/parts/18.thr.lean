/-! the tables of throws, and that they are right -/
def hb_th : Nat → Nat → Nat → Option String
  | 12, 80, 82 => some "java/lang/IndexOutOfBoundsException"
  | 12, 99, 101 => some "java/lang/IllegalArgumentException"
  | 12, 210, 212 => some "java/lang/IllegalStateException"
  | _, _, _ => none
def hb_ct : Nat → Nat → Option String
  | 52, 13 => some "java/lang/IndexOutOfBoundsException"
  | 52, 19 => some "java/lang/IllegalArgumentException"
  | 52, 50 => some "java/lang/IllegalStateException"
  | 23, 223 => some "DispatchHouseModel$Wrong"
  | 23, 790 => some "DispatchHouseModel$Failed"
  | 23, 888 => some "DispatchHouseModel$Ended"
  | _, _ => none
def hb_ca (E nm : String) : Option Bool := if E = nm ∧ E ∈ ["java/lang/IndexOutOfBoundsException", "java/lang/IllegalArgumentException", "java/lang/IllegalStateException", "DispatchHouseModel$Failed", "DispatchHouseModel$Ended", "DispatchHouseModel$Wrong"] then some true else if (E, nm) ∈ [("java/lang/IllegalArgumentException", "java/lang/IndexOutOfBoundsException"), ("DispatchHouseModel$Ended", "DispatchHouseModel$Failed")] then some false else none
def hb_MX : Nat → Option ab_MX
  | 6088 => some (mX23_eval, [(193, 203, 211, 0), (211, 213, 211, 0), (242, 250, 251, 790)])
  | 6089 => some (mX23_called, [(97, 129, 184, 0), (142, 171, 184, 0), (184, 186, 184, 0)])
  | 6090 => some (mX23_enter, [(144, 155, 168, 0), (168, 170, 168, 0)])
  | 6091 => some (mX23_runAll, [(49, 66, 69, 790), (49, 66, 86, 888)])
  | 6092 => some (mX23_tell, [(35, 62, 65, 223)])
  | 6093 => some (mX23_program, [(43, 85, 88, 223)])
  | 13512 => some (mL_feed, [(0, 16, 19, 13)])
  | 13513 => some (mL_end, [(0, 9, 12, 19)])
  | 13514 => some (mL_drop, [(0, 16, 19, 13)])
  | 13515 => some (mL_set, [(0, 10, 13, 19)])
  | 13516 => some (mL_count, [(0, 9, 12, 19)])
  | 13517 => some (mL_below, [(0, 17, 20, 13)])
  | 13518 => some (mL_row, [(0, 12, 15, 13), (0, 12, 19, 19)])
  | 13519 => some (mL_nearer, [(0, 16, 19, 13), (0, 16, 23, 19)])
  | 13520 => some (mL_call, [(0, 10, 13, 13), (0, 10, 17, 19)])
  | 13521 => some (mL_run, [(0, 8, 11, 50)])
  | 13522 => some (mL_told, [(0, 9, 12, 19)])
  | 13523 => some (mL_shown, [(0, 9, 12, 13)])
  | 13524 => some (mL_ran, [(0, 8, 11, 50)])
  | 13525 => some (mL_word, [(0, 8, 11, 13)])
  | _ => none
abbrev hb_GT : ab_GT := (hb_th, hb_ct, hb_ca, hb_MX)
def hb_Rn : Nat → String
  | 0 => RX0
  | 1 => RX1
  | 2 => RX2
  | 3 => RX3
  | 4 => RX4
  | 5 => RX5
  | 6 => RX6
  | 7 => RX7
  | 8 => RX8
  | 9 => RX9
  | 10 => RX10
  | 11 => RX11
  | 12 => RX12
  | 13 => RX13
  | 14 => RX14
  | 15 => RX15
  | 16 => RX16
  | 17 => RX17
  | 18 => RX18
  | 19 => RX19
  | 20 => RX20
  | 21 => RX21
  | 22 => RX22
  | 23 => RX23
  | 31 => RJ11
  | 33 => RJ6
  | 35 => RJ13
  | 37 => RJ0
  | 38 => RJ1
  | 39 => RJ2
  | 41 => RJxa1e45
  | 42 => RJxc12de
  | 43 => RJx4a65c
  | 44 => RJ7
  | 47 => RJ15
  | 50 => RJ8
  | 51 => RJ3
  | 60 => RZR15
  | 61 => RZE15
  | 62 => RZT15
  | 63 => RZR16
  | 64 => RZE16
  | 65 => RZT16
  | 66 => RZR22
  | 67 => RZE22
  | 68 => RZT22
  | 52 => RL
  | _ => ""
theorem hb_R0_0 : ∀ M ∈ [mX0_init, mX0_rowSize, mX0_endsWithSeveral, mX0_inRow, mX0_choose, mX0_isLaid, mX0_gatherApplying, mX0_isOn, mX0_takes, mX0_holds, mX0_gatherGroup, mX0_layGroup], ab_mo M = 0 ∧ (ab_my M).cls = RX0 := List.forall_mem_cons.mpr ⟨⟨rfl, rfl⟩, List.forall_mem_cons.mpr ⟨⟨rfl, rfl⟩, List.forall_mem_cons.mpr ⟨⟨rfl, rfl⟩, List.forall_mem_cons.mpr ⟨⟨rfl, rfl⟩, List.forall_mem_cons.mpr ⟨⟨rfl, rfl⟩, List.forall_mem_cons.mpr ⟨⟨rfl, rfl⟩, List.forall_mem_cons.mpr ⟨⟨rfl, rfl⟩, List.forall_mem_cons.mpr ⟨⟨rfl, rfl⟩, List.forall_mem_cons.mpr ⟨⟨rfl, rfl⟩, List.forall_mem_cons.mpr ⟨⟨rfl, rfl⟩, List.forall_mem_cons.mpr ⟨⟨rfl, rfl⟩, List.forall_mem_cons.mpr ⟨⟨rfl, rfl⟩, fun _ h => absurd h List.not_mem_nil⟩⟩⟩⟩⟩⟩⟩⟩⟩⟩⟩⟩
theorem hb_R0_1 : ∀ M ∈ [mX0_pickNext], ab_mo M = 0 ∧ (ab_my M).cls = RX0 := List.forall_mem_cons.mpr ⟨⟨rfl, rfl⟩, fun _ h => absurd h List.not_mem_nil⟩
theorem hb_R0 : ∀ M ∈ hb_N0, ab_mo M = 0 ∧ (ab_my M).cls = RX0 := by
  intro M h
  have h : M ∈ [mX0_init, mX0_rowSize, mX0_endsWithSeveral, mX0_inRow, mX0_choose, mX0_isLaid, mX0_gatherApplying, mX0_isOn, mX0_takes, mX0_holds, mX0_gatherGroup, mX0_layGroup] ++ ([mX0_pickNext]) := h
  rcases List.mem_append.mp h with h | h
  · exact hb_R0_0 M h
  exact hb_R0_1 M h
theorem hb_R1_0 : ∀ M ∈ [mX1_init, mX1_open, mX1_emit, mX1_aim], ab_mo M = 1 ∧ (ab_my M).cls = RX1 := List.forall_mem_cons.mpr ⟨⟨rfl, rfl⟩, List.forall_mem_cons.mpr ⟨⟨rfl, rfl⟩, List.forall_mem_cons.mpr ⟨⟨rfl, rfl⟩, List.forall_mem_cons.mpr ⟨⟨rfl, rfl⟩, fun _ h => absurd h List.not_mem_nil⟩⟩⟩⟩
theorem hb_R1 : ∀ M ∈ hb_N1, ab_mo M = 1 ∧ (ab_my M).cls = RX1 := by
  intro M h
  have h : M ∈ [mX1_init, mX1_open, mX1_emit, mX1_aim] := h
  exact hb_R1_0 M h
theorem hb_R2_0 : ∀ M ∈ [mX2_init, mX2_isBelow, mX2_inRow, mX2_spotInRow, mX2_isParent, mX2_addParent, mX2_make, mX2_putInRow, mX2_merge, mX2_listLength, mX2_inList, mX2_firstFreeHead], ab_mo M = 2 ∧ (ab_my M).cls = RX2 := List.forall_mem_cons.mpr ⟨⟨rfl, rfl⟩, List.forall_mem_cons.mpr ⟨⟨rfl, rfl⟩, List.forall_mem_cons.mpr ⟨⟨rfl, rfl⟩, List.forall_mem_cons.mpr ⟨⟨rfl, rfl⟩, List.forall_mem_cons.mpr ⟨⟨rfl, rfl⟩, List.forall_mem_cons.mpr ⟨⟨rfl, rfl⟩, List.forall_mem_cons.mpr ⟨⟨rfl, rfl⟩, List.forall_mem_cons.mpr ⟨⟨rfl, rfl⟩, List.forall_mem_cons.mpr ⟨⟨rfl, rfl⟩, List.forall_mem_cons.mpr ⟨⟨rfl, rfl⟩, List.forall_mem_cons.mpr ⟨⟨rfl, rfl⟩, List.forall_mem_cons.mpr ⟨⟨rfl, rfl⟩, fun _ h => absurd h List.not_mem_nil⟩⟩⟩⟩⟩⟩⟩⟩⟩⟩⟩⟩
theorem hb_R2_1 : ∀ M ∈ [mX2_isBehindAHead, mX2_joinByFirst, mX2_joinByLast], ab_mo M = 2 ∧ (ab_my M).cls = RX2 := List.forall_mem_cons.mpr ⟨⟨rfl, rfl⟩, List.forall_mem_cons.mpr ⟨⟨rfl, rfl⟩, List.forall_mem_cons.mpr ⟨⟨rfl, rfl⟩, fun _ h => absurd h List.not_mem_nil⟩⟩⟩
theorem hb_R2 : ∀ M ∈ hb_N2, ab_mo M = 2 ∧ (ab_my M).cls = RX2 := by
  intro M h
  have h : M ∈ [mX2_init, mX2_isBelow, mX2_inRow, mX2_spotInRow, mX2_isParent, mX2_addParent, mX2_make, mX2_putInRow, mX2_merge, mX2_listLength, mX2_inList, mX2_firstFreeHead] ++ ([mX2_isBehindAHead, mX2_joinByFirst, mX2_joinByLast]) := h
  rcases List.mem_append.mp h with h | h
  · exact hb_R2_0 M h
  exact hb_R2_1 M h
theorem hb_R3_0 : ∀ M ∈ [mX3_init, mX3_countLists, mX3_countCells, mX3_countPressed, mX3_countNodes, mX3_looksFor, mX3_looksInTree, mX3_matters, mX3_plan, mX3_isOrderOf, mX3_findLive, mX3_countSets], ab_mo M = 3 ∧ (ab_my M).cls = RX3 := List.forall_mem_cons.mpr ⟨⟨rfl, rfl⟩, List.forall_mem_cons.mpr ⟨⟨rfl, rfl⟩, List.forall_mem_cons.mpr ⟨⟨rfl, rfl⟩, List.forall_mem_cons.mpr ⟨⟨rfl, rfl⟩, List.forall_mem_cons.mpr ⟨⟨rfl, rfl⟩, List.forall_mem_cons.mpr ⟨⟨rfl, rfl⟩, List.forall_mem_cons.mpr ⟨⟨rfl, rfl⟩, List.forall_mem_cons.mpr ⟨⟨rfl, rfl⟩, List.forall_mem_cons.mpr ⟨⟨rfl, rfl⟩, List.forall_mem_cons.mpr ⟨⟨rfl, rfl⟩, List.forall_mem_cons.mpr ⟨⟨rfl, rfl⟩, List.forall_mem_cons.mpr ⟨⟨rfl, rfl⟩, fun _ h => absurd h List.not_mem_nil⟩⟩⟩⟩⟩⟩⟩⟩⟩⟩⟩⟩
theorem hb_R3_1 : ∀ M ∈ [mX3_emptySet, mX3_addToSet, mX3_spotFor, mX3_makeRoomInSet], ab_mo M = 3 ∧ (ab_my M).cls = RX3 := List.forall_mem_cons.mpr ⟨⟨rfl, rfl⟩, List.forall_mem_cons.mpr ⟨⟨rfl, rfl⟩, List.forall_mem_cons.mpr ⟨⟨rfl, rfl⟩, List.forall_mem_cons.mpr ⟨⟨rfl, rfl⟩, fun _ h => absurd h List.not_mem_nil⟩⟩⟩⟩
theorem hb_R3 : ∀ M ∈ hb_N3, ab_mo M = 3 ∧ (ab_my M).cls = RX3 := by
  intro M h
  have h : M ∈ [mX3_init, mX3_countLists, mX3_countCells, mX3_countPressed, mX3_countNodes, mX3_looksFor, mX3_looksInTree, mX3_matters, mX3_plan, mX3_isOrderOf, mX3_findLive, mX3_countSets] ++ ([mX3_emptySet, mX3_addToSet, mX3_spotFor, mX3_makeRoomInSet]) := h
  rcases List.mem_append.mp h with h | h
  · exact hb_R3_0 M h
  exact hb_R3_1 M h
theorem hb_R4_0 : ∀ M ∈ [mX4_init, mX4_kindOf, mX4_valueOf, mX4_perform, mX4_beginRun, mX4_finish, mX4_push, mX4_pop, mX4_takeGiven, mX4_obey, mX4_without, mX4_reckon], ab_mo M = 4 ∧ (ab_my M).cls = RX4 := List.forall_mem_cons.mpr ⟨⟨rfl, rfl⟩, List.forall_mem_cons.mpr ⟨⟨rfl, rfl⟩, List.forall_mem_cons.mpr ⟨⟨rfl, rfl⟩, List.forall_mem_cons.mpr ⟨⟨rfl, rfl⟩, List.forall_mem_cons.mpr ⟨⟨rfl, rfl⟩, List.forall_mem_cons.mpr ⟨⟨rfl, rfl⟩, List.forall_mem_cons.mpr ⟨⟨rfl, rfl⟩, List.forall_mem_cons.mpr ⟨⟨rfl, rfl⟩, List.forall_mem_cons.mpr ⟨⟨rfl, rfl⟩, List.forall_mem_cons.mpr ⟨⟨rfl, rfl⟩, List.forall_mem_cons.mpr ⟨⟨rfl, rfl⟩, List.forall_mem_cons.mpr ⟨⟨rfl, rfl⟩, fun _ h => absurd h List.not_mem_nil⟩⟩⟩⟩⟩⟩⟩⟩⟩⟩⟩⟩
theorem hb_R4_1 : ∀ M ∈ [mX4_joinTwo, mX4_showTop, mX4_beginTry, mX4_endTry, mX4_failWith, mX4_inFrame, mX4_beginCall, mX4_beginMethod, mX4_goToNext, mX4_beginInside, mX4_goOnInside, mX4_plainTurns], ab_mo M = 4 ∧ (ab_my M).cls = RX4 := List.forall_mem_cons.mpr ⟨⟨rfl, rfl⟩, List.forall_mem_cons.mpr ⟨⟨rfl, rfl⟩, List.forall_mem_cons.mpr ⟨⟨rfl, rfl⟩, List.forall_mem_cons.mpr ⟨⟨rfl, rfl⟩, List.forall_mem_cons.mpr ⟨⟨rfl, rfl⟩, List.forall_mem_cons.mpr ⟨⟨rfl, rfl⟩, List.forall_mem_cons.mpr ⟨⟨rfl, rfl⟩, List.forall_mem_cons.mpr ⟨⟨rfl, rfl⟩, List.forall_mem_cons.mpr ⟨⟨rfl, rfl⟩, List.forall_mem_cons.mpr ⟨⟨rfl, rfl⟩, List.forall_mem_cons.mpr ⟨⟨rfl, rfl⟩, List.forall_mem_cons.mpr ⟨⟨rfl, rfl⟩, fun _ h => absurd h List.not_mem_nil⟩⟩⟩⟩⟩⟩⟩⟩⟩⟩⟩⟩
theorem hb_R4_2 : ∀ M ∈ [mX4_endMethod, mX4_joinValue], ab_mo M = 4 ∧ (ab_my M).cls = RX4 := List.forall_mem_cons.mpr ⟨⟨rfl, rfl⟩, List.forall_mem_cons.mpr ⟨⟨rfl, rfl⟩, fun _ h => absurd h List.not_mem_nil⟩⟩
theorem hb_R4 : ∀ M ∈ hb_N4, ab_mo M = 4 ∧ (ab_my M).cls = RX4 := by
  intro M h
  have h : M ∈ [mX4_init, mX4_kindOf, mX4_valueOf, mX4_perform, mX4_beginRun, mX4_finish, mX4_push, mX4_pop, mX4_takeGiven, mX4_obey, mX4_without, mX4_reckon] ++ ([mX4_joinTwo, mX4_showTop, mX4_beginTry, mX4_endTry, mX4_failWith, mX4_inFrame, mX4_beginCall, mX4_beginMethod, mX4_goToNext, mX4_beginInside, mX4_goOnInside, mX4_plainTurns] ++ ([mX4_endMethod, mX4_joinValue])) := h
  rcases List.mem_append.mp h with h | h
  · exact hb_R4_0 M h
  rcases List.mem_append.mp h with h | h
  · exact hb_R4_1 M h
  exact hb_R4_2 M h
theorem hb_R5_0 : ∀ M ∈ [mX5_init, mX5_isThere, mX5_open, mX5_addTest, mX5_asked, mX5_sameKinds, mX5_sameEquals, mX5_hasTwin], ab_mo M = 5 ∧ (ab_my M).cls = RX5 := List.forall_mem_cons.mpr ⟨⟨rfl, rfl⟩, List.forall_mem_cons.mpr ⟨⟨rfl, rfl⟩, List.forall_mem_cons.mpr ⟨⟨rfl, rfl⟩, List.forall_mem_cons.mpr ⟨⟨rfl, rfl⟩, List.forall_mem_cons.mpr ⟨⟨rfl, rfl⟩, List.forall_mem_cons.mpr ⟨⟨rfl, rfl⟩, List.forall_mem_cons.mpr ⟨⟨rfl, rfl⟩, List.forall_mem_cons.mpr ⟨⟨rfl, rfl⟩, fun _ h => absurd h List.not_mem_nil⟩⟩⟩⟩⟩⟩⟩⟩
theorem hb_R5 : ∀ M ∈ hb_N5, ab_mo M = 5 ∧ (ab_my M).cls = RX5 := by
  intro M h
  have h : M ∈ [mX5_init, mX5_isThere, mX5_open, mX5_addTest, mX5_asked, mX5_sameKinds, mX5_sameEquals, mX5_hasTwin] := h
  exact hb_R5_0 M h
theorem hb_R6_0 : ∀ M ∈ [mX6_init, mX6_forgetAll, mX6_compare, mX6_whoAsksMore, mX6_makeRoomForAll, mX6_isTests], ab_mo M = 6 ∧ (ab_my M).cls = RX6 := List.forall_mem_cons.mpr ⟨⟨rfl, rfl⟩, List.forall_mem_cons.mpr ⟨⟨rfl, rfl⟩, List.forall_mem_cons.mpr ⟨⟨rfl, rfl⟩, List.forall_mem_cons.mpr ⟨⟨rfl, rfl⟩, List.forall_mem_cons.mpr ⟨⟨rfl, rfl⟩, List.forall_mem_cons.mpr ⟨⟨rfl, rfl⟩, fun _ h => absurd h List.not_mem_nil⟩⟩⟩⟩⟩⟩
theorem hb_R6 : ∀ M ∈ hb_N6, ab_mo M = 6 ∧ (ab_my M).cls = RX6 := by
  intro M h
  have h : M ∈ [mX6_init, mX6_forgetAll, mX6_compare, mX6_whoAsksMore, mX6_makeRoomForAll, mX6_isTests] := h
  exact hb_R6_0 M h
theorem hb_R7_0 : ∀ M ∈ [mX7_init, mX7_readText, mX7_readProgram, mX7_begin, mX7_isClean, mX7_verdict, mX7_sign, mX7_take, mX7_breakRule, mX7_takeNewName, mX7_takeKnownName, mX7_readKind], ab_mo M = 7 ∧ (ab_my M).cls = RX7 := List.forall_mem_cons.mpr ⟨⟨rfl, rfl⟩, List.forall_mem_cons.mpr ⟨⟨rfl, rfl⟩, List.forall_mem_cons.mpr ⟨⟨rfl, rfl⟩, List.forall_mem_cons.mpr ⟨⟨rfl, rfl⟩, List.forall_mem_cons.mpr ⟨⟨rfl, rfl⟩, List.forall_mem_cons.mpr ⟨⟨rfl, rfl⟩, List.forall_mem_cons.mpr ⟨⟨rfl, rfl⟩, List.forall_mem_cons.mpr ⟨⟨rfl, rfl⟩, List.forall_mem_cons.mpr ⟨⟨rfl, rfl⟩, List.forall_mem_cons.mpr ⟨⟨rfl, rfl⟩, List.forall_mem_cons.mpr ⟨⟨rfl, rfl⟩, List.forall_mem_cons.mpr ⟨⟨rfl, rfl⟩, fun _ h => absurd h List.not_mem_nil⟩⟩⟩⟩⟩⟩⟩⟩⟩⟩⟩⟩
theorem hb_R7_1 : ∀ M ∈ [mX7_readCall, mX7_readLayer, mX7_readMethod, mX7_readSpecs, mX7_readSpec, mX7_takeNumber, mX7_readTest, mX7_readOneOfTest, mX7_readComparison, mX7_readTerm, mX7_readBody, mX7_addNode], ab_mo M = 7 ∧ (ab_my M).cls = RX7 := List.forall_mem_cons.mpr ⟨⟨rfl, rfl⟩, List.forall_mem_cons.mpr ⟨⟨rfl, rfl⟩, List.forall_mem_cons.mpr ⟨⟨rfl, rfl⟩, List.forall_mem_cons.mpr ⟨⟨rfl, rfl⟩, List.forall_mem_cons.mpr ⟨⟨rfl, rfl⟩, List.forall_mem_cons.mpr ⟨⟨rfl, rfl⟩, List.forall_mem_cons.mpr ⟨⟨rfl, rfl⟩, List.forall_mem_cons.mpr ⟨⟨rfl, rfl⟩, List.forall_mem_cons.mpr ⟨⟨rfl, rfl⟩, List.forall_mem_cons.mpr ⟨⟨rfl, rfl⟩, List.forall_mem_cons.mpr ⟨⟨rfl, rfl⟩, List.forall_mem_cons.mpr ⟨⟨rfl, rfl⟩, fun _ h => absurd h List.not_mem_nil⟩⟩⟩⟩⟩⟩⟩⟩⟩⟩⟩⟩
theorem hb_R7_2 : ∀ M ∈ [mX7_readE, mX7_readLet, mX7_readWithVariable, mX7_readIf, mX7_readWith, mX7_readTry, mX7_readCompared, mX7_readSum, mX7_readProduct, mX7_readP, mX7_readNamed, mX7_readNext], ab_mo M = 7 ∧ (ab_my M).cls = RX7 := List.forall_mem_cons.mpr ⟨⟨rfl, rfl⟩, List.forall_mem_cons.mpr ⟨⟨rfl, rfl⟩, List.forall_mem_cons.mpr ⟨⟨rfl, rfl⟩, List.forall_mem_cons.mpr ⟨⟨rfl, rfl⟩, List.forall_mem_cons.mpr ⟨⟨rfl, rfl⟩, List.forall_mem_cons.mpr ⟨⟨rfl, rfl⟩, List.forall_mem_cons.mpr ⟨⟨rfl, rfl⟩, List.forall_mem_cons.mpr ⟨⟨rfl, rfl⟩, List.forall_mem_cons.mpr ⟨⟨rfl, rfl⟩, List.forall_mem_cons.mpr ⟨⟨rfl, rfl⟩, List.forall_mem_cons.mpr ⟨⟨rfl, rfl⟩, List.forall_mem_cons.mpr ⟨⟨rfl, rfl⟩, fun _ h => absurd h List.not_mem_nil⟩⟩⟩⟩⟩⟩⟩⟩⟩⟩⟩⟩
theorem hb_R7_3 : ∀ M ∈ [mX7_readArguments], ab_mo M = 7 ∧ (ab_my M).cls = RX7 := List.forall_mem_cons.mpr ⟨⟨rfl, rfl⟩, fun _ h => absurd h List.not_mem_nil⟩
theorem hb_R7 : ∀ M ∈ hb_N7, ab_mo M = 7 ∧ (ab_my M).cls = RX7 := by
  intro M h
  have h : M ∈ [mX7_init, mX7_readText, mX7_readProgram, mX7_begin, mX7_isClean, mX7_verdict, mX7_sign, mX7_take, mX7_breakRule, mX7_takeNewName, mX7_takeKnownName, mX7_readKind] ++ ([mX7_readCall, mX7_readLayer, mX7_readMethod, mX7_readSpecs, mX7_readSpec, mX7_takeNumber, mX7_readTest, mX7_readOneOfTest, mX7_readComparison, mX7_readTerm, mX7_readBody, mX7_addNode] ++ ([mX7_readE, mX7_readLet, mX7_readWithVariable, mX7_readIf, mX7_readWith, mX7_readTry, mX7_readCompared, mX7_readSum, mX7_readProduct, mX7_readP, mX7_readNamed, mX7_readNext] ++ ([mX7_readArguments]))) := h
  rcases List.mem_append.mp h with h | h
  · exact hb_R7_0 M h
  rcases List.mem_append.mp h with h | h
  · exact hb_R7_1 M h
  rcases List.mem_append.mp h with h | h
  · exact hb_R7_2 M h
  exact hb_R7_3 M h
theorem hb_R8_0 : ∀ M ∈ [mX8_init, mX8_cut, mX8_put, mX8_cutOne, mX8_cutNumber, mX8_cutName, mX8_cutMark, mX8_codeOf, mX8_packed, mX8_wordOrName, mX8_isWord], ab_mo M = 8 ∧ (ab_my M).cls = RX8 := List.forall_mem_cons.mpr ⟨⟨rfl, rfl⟩, List.forall_mem_cons.mpr ⟨⟨rfl, rfl⟩, List.forall_mem_cons.mpr ⟨⟨rfl, rfl⟩, List.forall_mem_cons.mpr ⟨⟨rfl, rfl⟩, List.forall_mem_cons.mpr ⟨⟨rfl, rfl⟩, List.forall_mem_cons.mpr ⟨⟨rfl, rfl⟩, List.forall_mem_cons.mpr ⟨⟨rfl, rfl⟩, List.forall_mem_cons.mpr ⟨⟨rfl, rfl⟩, List.forall_mem_cons.mpr ⟨⟨rfl, rfl⟩, List.forall_mem_cons.mpr ⟨⟨rfl, rfl⟩, List.forall_mem_cons.mpr ⟨⟨rfl, rfl⟩, fun _ h => absurd h List.not_mem_nil⟩⟩⟩⟩⟩⟩⟩⟩⟩⟩⟩
theorem hb_R8 : ∀ M ∈ hb_N8, ab_mo M = 8 ∧ (ab_my M).cls = RX8 := by
  intro M h
  have h : M ∈ [mX8_init, mX8_cut, mX8_put, mX8_cutOne, mX8_cutNumber, mX8_cutName, mX8_cutMark, mX8_codeOf, mX8_packed, mX8_wordOrName, mX8_isWord] := h
  exact hb_R8_0 M h
theorem hb_R9_0 : ∀ M ∈ [mX9_init, mX9_empty, mX9_cutBy, mX9_addCut, mX9_begin, mX9_toNextCell, mX9_goToSide, mX9_isTakenBy, mX9_holds], ab_mo M = 9 ∧ (ab_my M).cls = RX9 := List.forall_mem_cons.mpr ⟨⟨rfl, rfl⟩, List.forall_mem_cons.mpr ⟨⟨rfl, rfl⟩, List.forall_mem_cons.mpr ⟨⟨rfl, rfl⟩, List.forall_mem_cons.mpr ⟨⟨rfl, rfl⟩, List.forall_mem_cons.mpr ⟨⟨rfl, rfl⟩, List.forall_mem_cons.mpr ⟨⟨rfl, rfl⟩, List.forall_mem_cons.mpr ⟨⟨rfl, rfl⟩, List.forall_mem_cons.mpr ⟨⟨rfl, rfl⟩, List.forall_mem_cons.mpr ⟨⟨rfl, rfl⟩, fun _ h => absurd h List.not_mem_nil⟩⟩⟩⟩⟩⟩⟩⟩⟩
theorem hb_R9 : ∀ M ∈ hb_N9, ab_mo M = 9 ∧ (ab_my M).cls = RX9 := by
  intro M h
  have h : M ∈ [mX9_init, mX9_empty, mX9_cutBy, mX9_addCut, mX9_begin, mX9_toNextCell, mX9_goToSide, mX9_isTakenBy, mX9_holds] := h
  exact hb_R9_0 M h
theorem hb_R10_0 : ∀ M ∈ [mX10_init, mX10_judge, mX10_goToRow, mX10_keepKinds, mX10_gatherFitting, mX10_judgeRow, mX10_hasNearest], ab_mo M = 10 ∧ (ab_my M).cls = RX10 := List.forall_mem_cons.mpr ⟨⟨rfl, rfl⟩, List.forall_mem_cons.mpr ⟨⟨rfl, rfl⟩, List.forall_mem_cons.mpr ⟨⟨rfl, rfl⟩, List.forall_mem_cons.mpr ⟨⟨rfl, rfl⟩, List.forall_mem_cons.mpr ⟨⟨rfl, rfl⟩, List.forall_mem_cons.mpr ⟨⟨rfl, rfl⟩, List.forall_mem_cons.mpr ⟨⟨rfl, rfl⟩, fun _ h => absurd h List.not_mem_nil⟩⟩⟩⟩⟩⟩⟩
theorem hb_R10 : ∀ M ∈ hb_N10, ab_mo M = 10 ∧ (ab_my M).cls = RX10 := by
  intro M h
  have h : M ∈ [mX10_init, mX10_judge, mX10_goToRow, mX10_keepKinds, mX10_gatherFitting, mX10_judgeRow, mX10_hasNearest] := h
  exact hb_R10_0 M h
theorem hb_R11_0 : ∀ M ∈ [mX11_init, mX11_isKind, mX11_find, mX11_isTold, mX11_isFull, mX11_addName, mX11_beginAnew, mX11_keep, mX11_goBack, mX11_takeStock, mX11_takeStockOf, mX11_methodsOf], ab_mo M = 11 ∧ (ab_my M).cls = RX11 := List.forall_mem_cons.mpr ⟨⟨rfl, rfl⟩, List.forall_mem_cons.mpr ⟨⟨rfl, rfl⟩, List.forall_mem_cons.mpr ⟨⟨rfl, rfl⟩, List.forall_mem_cons.mpr ⟨⟨rfl, rfl⟩, List.forall_mem_cons.mpr ⟨⟨rfl, rfl⟩, List.forall_mem_cons.mpr ⟨⟨rfl, rfl⟩, List.forall_mem_cons.mpr ⟨⟨rfl, rfl⟩, List.forall_mem_cons.mpr ⟨⟨rfl, rfl⟩, List.forall_mem_cons.mpr ⟨⟨rfl, rfl⟩, List.forall_mem_cons.mpr ⟨⟨rfl, rfl⟩, List.forall_mem_cons.mpr ⟨⟨rfl, rfl⟩, List.forall_mem_cons.mpr ⟨⟨rfl, rfl⟩, fun _ h => absurd h List.not_mem_nil⟩⟩⟩⟩⟩⟩⟩⟩⟩⟩⟩⟩
theorem hb_R11_1 : ∀ M ∈ [mX11_listFor, mX11_fits], ab_mo M = 11 ∧ (ab_my M).cls = RX11 := List.forall_mem_cons.mpr ⟨⟨rfl, rfl⟩, List.forall_mem_cons.mpr ⟨⟨rfl, rfl⟩, fun _ h => absurd h List.not_mem_nil⟩⟩
theorem hb_R11 : ∀ M ∈ hb_N11, ab_mo M = 11 ∧ (ab_my M).cls = RX11 := by
  intro M h
  have h : M ∈ [mX11_init, mX11_isKind, mX11_find, mX11_isTold, mX11_isFull, mX11_addName, mX11_beginAnew, mX11_keep, mX11_goBack, mX11_takeStock, mX11_takeStockOf, mX11_methodsOf] ++ ([mX11_listFor, mX11_fits]) := h
  rcases List.mem_append.mp h with h | h
  · exact hb_R11_0 M h
  exact hb_R11_1 M h
theorem hb_R12_0 : ∀ M ∈ [mX12_init, mX12_feed, mX12_putOnTape, mX12_end, mX12_tell, mX12_program, mX12_clear, mX12_drop, mX12_set, mX12_count, mX12_below, mX12_row], ab_mo M = 12 ∧ (ab_my M).cls = RX12 := List.forall_mem_cons.mpr ⟨⟨rfl, rfl⟩, List.forall_mem_cons.mpr ⟨⟨rfl, rfl⟩, List.forall_mem_cons.mpr ⟨⟨rfl, rfl⟩, List.forall_mem_cons.mpr ⟨⟨rfl, rfl⟩, List.forall_mem_cons.mpr ⟨⟨rfl, rfl⟩, List.forall_mem_cons.mpr ⟨⟨rfl, rfl⟩, List.forall_mem_cons.mpr ⟨⟨rfl, rfl⟩, List.forall_mem_cons.mpr ⟨⟨rfl, rfl⟩, List.forall_mem_cons.mpr ⟨⟨rfl, rfl⟩, List.forall_mem_cons.mpr ⟨⟨rfl, rfl⟩, List.forall_mem_cons.mpr ⟨⟨rfl, rfl⟩, List.forall_mem_cons.mpr ⟨⟨rfl, rfl⟩, fun _ h => absurd h List.not_mem_nil⟩⟩⟩⟩⟩⟩⟩⟩⟩⟩⟩⟩
theorem hb_R12_1 : ∀ M ∈ [mX12_nearer, mX12_call, mX12_run, mX12_told, mX12_shown, mX12_ran, mX12_word, mX12_byteOfResult], ab_mo M = 12 ∧ (ab_my M).cls = RX12 := List.forall_mem_cons.mpr ⟨⟨rfl, rfl⟩, List.forall_mem_cons.mpr ⟨⟨rfl, rfl⟩, List.forall_mem_cons.mpr ⟨⟨rfl, rfl⟩, List.forall_mem_cons.mpr ⟨⟨rfl, rfl⟩, List.forall_mem_cons.mpr ⟨⟨rfl, rfl⟩, List.forall_mem_cons.mpr ⟨⟨rfl, rfl⟩, List.forall_mem_cons.mpr ⟨⟨rfl, rfl⟩, List.forall_mem_cons.mpr ⟨⟨rfl, rfl⟩, fun _ h => absurd h List.not_mem_nil⟩⟩⟩⟩⟩⟩⟩⟩
theorem hb_R12 : ∀ M ∈ hb_N12, ab_mo M = 12 ∧ (ab_my M).cls = RX12 := by
  intro M h
  have h : M ∈ [mX12_init, mX12_feed, mX12_putOnTape, mX12_end, mX12_tell, mX12_program, mX12_clear, mX12_drop, mX12_set, mX12_count, mX12_below, mX12_row] ++ ([mX12_nearer, mX12_call, mX12_run, mX12_told, mX12_shown, mX12_ran, mX12_word, mX12_byteOfResult]) := h
  rcases List.mem_append.mp h with h | h
  · exact hb_R12_0 M h
  exact hb_R12_1 M h
theorem hb_R13_0 : ∀ M ∈ [mX13_init], ab_mo M = 13 ∧ (ab_my M).cls = RX13 := List.forall_mem_cons.mpr ⟨⟨rfl, rfl⟩, fun _ h => absurd h List.not_mem_nil⟩
theorem hb_R13 : ∀ M ∈ hb_N13, ab_mo M = 13 ∧ (ab_my M).cls = RX13 := by
  intro M h
  have h : M ∈ [mX13_init] := h
  exact hb_R13_0 M h
theorem hb_R14_0 : ∀ M ∈ [mX14_init], ab_mo M = 14 ∧ (ab_my M).cls = RX14 := List.forall_mem_cons.mpr ⟨⟨rfl, rfl⟩, fun _ h => absurd h List.not_mem_nil⟩
theorem hb_R14 : ∀ M ∈ hb_N14, ab_mo M = 14 ∧ (ab_my M).cls = RX14 := by
  intro M h
  have h : M ∈ [mX14_init] := h
  exact hb_R14_0 M h
theorem hb_R15_0 : ∀ M ∈ [mX15_init], ab_mo M = 15 ∧ (ab_my M).cls = RX15 := List.forall_mem_cons.mpr ⟨⟨rfl, rfl⟩, fun _ h => absurd h List.not_mem_nil⟩
theorem hb_R15 : ∀ M ∈ hb_N15, ab_mo M = 15 ∧ (ab_my M).cls = RX15 := by
  intro M h
  have h : M ∈ [mX15_init] := h
  exact hb_R15_0 M h
theorem hb_R16_0 : ∀ M ∈ [mX16_init], ab_mo M = 16 ∧ (ab_my M).cls = RX16 := List.forall_mem_cons.mpr ⟨⟨rfl, rfl⟩, fun _ h => absurd h List.not_mem_nil⟩
theorem hb_R16 : ∀ M ∈ hb_N16, ab_mo M = 16 ∧ (ab_my M).cls = RX16 := by
  intro M h
  have h : M ∈ [mX16_init] := h
  exact hb_R16_0 M h
theorem hb_R17_0 : ∀ M ∈ [mX17_init, mX17_place], ab_mo M = 17 ∧ (ab_my M).cls = RX17 := List.forall_mem_cons.mpr ⟨⟨rfl, rfl⟩, List.forall_mem_cons.mpr ⟨⟨rfl, rfl⟩, fun _ h => absurd h List.not_mem_nil⟩⟩
theorem hb_R17 : ∀ M ∈ hb_N17, ab_mo M = 17 ∧ (ab_my M).cls = RX17 := by
  intro M h
  have h : M ∈ [mX17_init, mX17_place] := h
  exact hb_R17_0 M h
theorem hb_R18_0 : ∀ M ∈ [mX18_init, mX18_asks], ab_mo M = 18 ∧ (ab_my M).cls = RX18 := List.forall_mem_cons.mpr ⟨⟨rfl, rfl⟩, List.forall_mem_cons.mpr ⟨⟨rfl, rfl⟩, fun _ h => absurd h List.not_mem_nil⟩⟩
theorem hb_R18 : ∀ M ∈ hb_N18, ab_mo M = 18 ∧ (ab_my M).cls = RX18 := by
  intro M h
  have h : M ∈ [mX18_init, mX18_asks] := h
  exact hb_R18_0 M h
theorem hb_R19_0 : ∀ M ∈ [mX19_init, mX19_be, mX19_be_, mX19_is], ab_mo M = 19 ∧ (ab_my M).cls = RX19 := List.forall_mem_cons.mpr ⟨⟨rfl, rfl⟩, List.forall_mem_cons.mpr ⟨⟨rfl, rfl⟩, List.forall_mem_cons.mpr ⟨⟨rfl, rfl⟩, List.forall_mem_cons.mpr ⟨⟨rfl, rfl⟩, fun _ h => absurd h List.not_mem_nil⟩⟩⟩⟩
theorem hb_R19 : ∀ M ∈ hb_N19, ab_mo M = 19 ∧ (ab_my M).cls = RX19 := by
  intro M h
  have h : M ∈ [mX19_init, mX19_be, mX19_be_, mX19_is] := h
  exact hb_R19_0 M h
theorem hb_R20_0 : ∀ M ∈ [mX20_init, mX20_be], ab_mo M = 20 ∧ (ab_my M).cls = RX20 := List.forall_mem_cons.mpr ⟨⟨rfl, rfl⟩, List.forall_mem_cons.mpr ⟨⟨rfl, rfl⟩, fun _ h => absurd h List.not_mem_nil⟩⟩
theorem hb_R20 : ∀ M ∈ hb_N20, ab_mo M = 20 ∧ (ab_my M).cls = RX20 := by
  intro M h
  have h : M ∈ [mX20_init, mX20_be] := h
  exact hb_R20_0 M h
theorem hb_R21_0 : ∀ M ∈ [mX21_init, mX21_get], ab_mo M = 21 ∧ (ab_my M).cls = RX21 := List.forall_mem_cons.mpr ⟨⟨rfl, rfl⟩, List.forall_mem_cons.mpr ⟨⟨rfl, rfl⟩, fun _ h => absurd h List.not_mem_nil⟩⟩
theorem hb_R21 : ∀ M ∈ hb_N21, ab_mo M = 21 ∧ (ab_my M).cls = RX21 := by
  intro M h
  have h : M ∈ [mX21_init, mX21_get] := h
  exact hb_R21_0 M h
theorem hb_R22_0 : ∀ M ∈ [mX22_init], ab_mo M = 22 ∧ (ab_my M).cls = RX22 := List.forall_mem_cons.mpr ⟨⟨rfl, rfl⟩, fun _ h => absurd h List.not_mem_nil⟩
theorem hb_R22 : ∀ M ∈ hb_N22, ab_mo M = 22 ∧ (ab_my M).cls = RX22 := by
  intro M h
  have h : M ∈ [mX22_init] := h
  exact hb_R22_0 M h
theorem hb_R23_0 : ∀ M ∈ [mX23_isName, mX23_isSame, mX23_kindNamed, mX23_callNamed, mX23_layerNamed, mX23_isTold, mX23_isBelow, mX23_makeRows, mX23_isFirst, mX23_joined, mX23_isLetter, mX23_isDigit], ab_mo M = 23 ∧ (ab_my M).cls = RX23 := List.forall_mem_cons.mpr ⟨⟨rfl, rfl⟩, List.forall_mem_cons.mpr ⟨⟨rfl, rfl⟩, List.forall_mem_cons.mpr ⟨⟨rfl, rfl⟩, List.forall_mem_cons.mpr ⟨⟨rfl, rfl⟩, List.forall_mem_cons.mpr ⟨⟨rfl, rfl⟩, List.forall_mem_cons.mpr ⟨⟨rfl, rfl⟩, List.forall_mem_cons.mpr ⟨⟨rfl, rfl⟩, List.forall_mem_cons.mpr ⟨⟨rfl, rfl⟩, List.forall_mem_cons.mpr ⟨⟨rfl, rfl⟩, List.forall_mem_cons.mpr ⟨⟨rfl, rfl⟩, List.forall_mem_cons.mpr ⟨⟨rfl, rfl⟩, List.forall_mem_cons.mpr ⟨⟨rfl, rfl⟩, fun _ h => absurd h List.not_mem_nil⟩⟩⟩⟩⟩⟩⟩⟩⟩⟩⟩⟩
theorem hb_R23_1 : ∀ M ∈ [mX23_isHere, mX23_word, mX23_next, mX23_no, mX23_is, mX23_is_, mX23_want, mX23_want_, mX23_skip, mX23_name, mX23_breaks, mX23_into], ab_mo M = 23 ∧ (ab_my M).cls = RX23 := List.forall_mem_cons.mpr ⟨⟨rfl, rfl⟩, List.forall_mem_cons.mpr ⟨⟨rfl, rfl⟩, List.forall_mem_cons.mpr ⟨⟨rfl, rfl⟩, List.forall_mem_cons.mpr ⟨⟨rfl, rfl⟩, List.forall_mem_cons.mpr ⟨⟨rfl, rfl⟩, List.forall_mem_cons.mpr ⟨⟨rfl, rfl⟩, List.forall_mem_cons.mpr ⟨⟨rfl, rfl⟩, List.forall_mem_cons.mpr ⟨⟨rfl, rfl⟩, List.forall_mem_cons.mpr ⟨⟨rfl, rfl⟩, List.forall_mem_cons.mpr ⟨⟨rfl, rfl⟩, List.forall_mem_cons.mpr ⟨⟨rfl, rfl⟩, List.forall_mem_cons.mpr ⟨⟨rfl, rfl⟩, fun _ h => absurd h List.not_mem_nil⟩⟩⟩⟩⟩⟩⟩⟩⟩⟩⟩⟩
theorem hb_R23_2 : ∀ M ∈ [mX23_counted, mX23_readText, mX23_start, mX23_kind, mX23_call, mX23_layer, mX23_method, mX23_specs, mX23_signed, mX23_isThere, mX23_test, mX23_two], ab_mo M = 23 ∧ (ab_my M).cls = RX23 := List.forall_mem_cons.mpr ⟨⟨rfl, rfl⟩, List.forall_mem_cons.mpr ⟨⟨rfl, rfl⟩, List.forall_mem_cons.mpr ⟨⟨rfl, rfl⟩, List.forall_mem_cons.mpr ⟨⟨rfl, rfl⟩, List.forall_mem_cons.mpr ⟨⟨rfl, rfl⟩, List.forall_mem_cons.mpr ⟨⟨rfl, rfl⟩, List.forall_mem_cons.mpr ⟨⟨rfl, rfl⟩, List.forall_mem_cons.mpr ⟨⟨rfl, rfl⟩, List.forall_mem_cons.mpr ⟨⟨rfl, rfl⟩, List.forall_mem_cons.mpr ⟨⟨rfl, rfl⟩, List.forall_mem_cons.mpr ⟨⟨rfl, rfl⟩, List.forall_mem_cons.mpr ⟨⟨rfl, rfl⟩, fun _ h => absurd h List.not_mem_nil⟩⟩⟩⟩⟩⟩⟩⟩⟩⟩⟩⟩
theorem hb_R23_3 : ∀ M ∈ [mX23_conjunction, mX23_spec, mX23_single, mX23_comparison, mX23_counts, mX23_behind, mX23_e, mX23_under, mX23_compared, mX23_chain, mX23_p, mX23_named], ab_mo M = 23 ∧ (ab_my M).cls = RX23 := List.forall_mem_cons.mpr ⟨⟨rfl, rfl⟩, List.forall_mem_cons.mpr ⟨⟨rfl, rfl⟩, List.forall_mem_cons.mpr ⟨⟨rfl, rfl⟩, List.forall_mem_cons.mpr ⟨⟨rfl, rfl⟩, List.forall_mem_cons.mpr ⟨⟨rfl, rfl⟩, List.forall_mem_cons.mpr ⟨⟨rfl, rfl⟩, List.forall_mem_cons.mpr ⟨⟨rfl, rfl⟩, List.forall_mem_cons.mpr ⟨⟨rfl, rfl⟩, List.forall_mem_cons.mpr ⟨⟨rfl, rfl⟩, List.forall_mem_cons.mpr ⟨⟨rfl, rfl⟩, List.forall_mem_cons.mpr ⟨⟨rfl, rfl⟩, List.forall_mem_cons.mpr ⟨⟨rfl, rfl⟩, fun _ h => absurd h List.not_mem_nil⟩⟩⟩⟩⟩⟩⟩⟩⟩⟩⟩⟩
theorem hb_R23_4 : ∀ M ∈ [mX23_arguments, mX23_has, mX23_rebuild, mX23_fits, mX23_atom, mX23_atoms, mX23_see, mX23_explore, mX23_bound, mX23_both, mX23_not, mX23_takes], ab_mo M = 23 ∧ (ab_my M).cls = RX23 := List.forall_mem_cons.mpr ⟨⟨rfl, rfl⟩, List.forall_mem_cons.mpr ⟨⟨rfl, rfl⟩, List.forall_mem_cons.mpr ⟨⟨rfl, rfl⟩, List.forall_mem_cons.mpr ⟨⟨rfl, rfl⟩, List.forall_mem_cons.mpr ⟨⟨rfl, rfl⟩, List.forall_mem_cons.mpr ⟨⟨rfl, rfl⟩, List.forall_mem_cons.mpr ⟨⟨rfl, rfl⟩, List.forall_mem_cons.mpr ⟨⟨rfl, rfl⟩, List.forall_mem_cons.mpr ⟨⟨rfl, rfl⟩, List.forall_mem_cons.mpr ⟨⟨rfl, rfl⟩, List.forall_mem_cons.mpr ⟨⟨rfl, rfl⟩, List.forall_mem_cons.mpr ⟨⟨rfl, rfl⟩, fun _ h => absurd h List.not_mem_nil⟩⟩⟩⟩⟩⟩⟩⟩⟩⟩⟩⟩
theorem hb_R23_5 : ∀ M ∈ [mX23_holds, mX23_forget, mX23_nearer, mX23_reckoned, mX23_asksMore, mX23_group, mX23_isAlike, mX23_isNew, mX23_nothingIs, mX23_lists, mX23_cells, mX23_place], ab_mo M = 23 ∧ (ab_my M).cls = RX23 := List.forall_mem_cons.mpr ⟨⟨rfl, rfl⟩, List.forall_mem_cons.mpr ⟨⟨rfl, rfl⟩, List.forall_mem_cons.mpr ⟨⟨rfl, rfl⟩, List.forall_mem_cons.mpr ⟨⟨rfl, rfl⟩, List.forall_mem_cons.mpr ⟨⟨rfl, rfl⟩, List.forall_mem_cons.mpr ⟨⟨rfl, rfl⟩, List.forall_mem_cons.mpr ⟨⟨rfl, rfl⟩, List.forall_mem_cons.mpr ⟨⟨rfl, rfl⟩, List.forall_mem_cons.mpr ⟨⟨rfl, rfl⟩, List.forall_mem_cons.mpr ⟨⟨rfl, rfl⟩, List.forall_mem_cons.mpr ⟨⟨rfl, rfl⟩, List.forall_mem_cons.mpr ⟨⟨rfl, rfl⟩, fun _ h => absurd h List.not_mem_nil⟩⟩⟩⟩⟩⟩⟩⟩⟩⟩⟩⟩
theorem hb_R23_6 : ∀ M ∈ [mX23_orderCount, mX23_matter, mX23_nodeCount, mX23_order, mX23_looks, mX23_without, mX23_with, mX23_isOn, mX23_applies, mX23_term, mX23_isTrue, mX23_firstOf], ab_mo M = 23 ∧ (ab_my M).cls = RX23 := List.forall_mem_cons.mpr ⟨⟨rfl, rfl⟩, List.forall_mem_cons.mpr ⟨⟨rfl, rfl⟩, List.forall_mem_cons.mpr ⟨⟨rfl, rfl⟩, List.forall_mem_cons.mpr ⟨⟨rfl, rfl⟩, List.forall_mem_cons.mpr ⟨⟨rfl, rfl⟩, List.forall_mem_cons.mpr ⟨⟨rfl, rfl⟩, List.forall_mem_cons.mpr ⟨⟨rfl, rfl⟩, List.forall_mem_cons.mpr ⟨⟨rfl, rfl⟩, List.forall_mem_cons.mpr ⟨⟨rfl, rfl⟩, List.forall_mem_cons.mpr ⟨⟨rfl, rfl⟩, List.forall_mem_cons.mpr ⟨⟨rfl, rfl⟩, List.forall_mem_cons.mpr ⟨⟨rfl, rfl⟩, fun _ h => absurd h List.not_mem_nil⟩⟩⟩⟩⟩⟩⟩⟩⟩⟩⟩⟩
theorem hb_R23_7 : ∀ M ∈ [mX23_chooseRow, mX23_value, mX23_kindIn, mX23_fault, mX23_ends, mX23_step, mX23_chained, mX23_choose, mX23_further, mX23_inside, mX23_joined_, mX23_judge], ab_mo M = 23 ∧ (ab_my M).cls = RX23 := List.forall_mem_cons.mpr ⟨⟨rfl, rfl⟩, List.forall_mem_cons.mpr ⟨⟨rfl, rfl⟩, List.forall_mem_cons.mpr ⟨⟨rfl, rfl⟩, List.forall_mem_cons.mpr ⟨⟨rfl, rfl⟩, List.forall_mem_cons.mpr ⟨⟨rfl, rfl⟩, List.forall_mem_cons.mpr ⟨⟨rfl, rfl⟩, List.forall_mem_cons.mpr ⟨⟨rfl, rfl⟩, List.forall_mem_cons.mpr ⟨⟨rfl, rfl⟩, List.forall_mem_cons.mpr ⟨⟨rfl, rfl⟩, List.forall_mem_cons.mpr ⟨⟨rfl, rfl⟩, List.forall_mem_cons.mpr ⟨⟨rfl, rfl⟩, List.forall_mem_cons.mpr ⟨⟨rfl, rfl⟩, fun _ h => absurd h List.not_mem_nil⟩⟩⟩⟩⟩⟩⟩⟩⟩⟩⟩⟩
theorem hb_R23_8 : ∀ M ∈ [mX23_collect, mX23_bad, mX23_lookAt, mX23_asksKinds, mX23_isSeveral, mX23_init, mX23_beginning, mX23_tellKind, mX23_thrown, mX23_no_, mX23_feed, mX23_word_], ab_mo M = 23 ∧ (ab_my M).cls = RX23 := List.forall_mem_cons.mpr ⟨⟨rfl, rfl⟩, List.forall_mem_cons.mpr ⟨⟨rfl, rfl⟩, List.forall_mem_cons.mpr ⟨⟨rfl, rfl⟩, List.forall_mem_cons.mpr ⟨⟨rfl, rfl⟩, List.forall_mem_cons.mpr ⟨⟨rfl, rfl⟩, List.forall_mem_cons.mpr ⟨⟨rfl, rfl⟩, List.forall_mem_cons.mpr ⟨⟨rfl, rfl⟩, List.forall_mem_cons.mpr ⟨⟨rfl, rfl⟩, List.forall_mem_cons.mpr ⟨⟨rfl, rfl⟩, List.forall_mem_cons.mpr ⟨⟨rfl, rfl⟩, List.forall_mem_cons.mpr ⟨⟨rfl, rfl⟩, List.forall_mem_cons.mpr ⟨⟨rfl, rfl⟩, fun _ h => absurd h List.not_mem_nil⟩⟩⟩⟩⟩⟩⟩⟩⟩⟩⟩⟩
theorem hb_R23_9 : ∀ M ∈ [mX23_end, mX23_clear, mX23_drop, mX23_set, mX23_count, mX23_isKind, mX23_below, mX23_row, mX23_nearer_, mX23_call_, mX23_run, mX23_told], ab_mo M = 23 ∧ (ab_my M).cls = RX23 := List.forall_mem_cons.mpr ⟨⟨rfl, rfl⟩, List.forall_mem_cons.mpr ⟨⟨rfl, rfl⟩, List.forall_mem_cons.mpr ⟨⟨rfl, rfl⟩, List.forall_mem_cons.mpr ⟨⟨rfl, rfl⟩, List.forall_mem_cons.mpr ⟨⟨rfl, rfl⟩, List.forall_mem_cons.mpr ⟨⟨rfl, rfl⟩, List.forall_mem_cons.mpr ⟨⟨rfl, rfl⟩, List.forall_mem_cons.mpr ⟨⟨rfl, rfl⟩, List.forall_mem_cons.mpr ⟨⟨rfl, rfl⟩, List.forall_mem_cons.mpr ⟨⟨rfl, rfl⟩, List.forall_mem_cons.mpr ⟨⟨rfl, rfl⟩, List.forall_mem_cons.mpr ⟨⟨rfl, rfl⟩, fun _ h => absurd h List.not_mem_nil⟩⟩⟩⟩⟩⟩⟩⟩⟩⟩⟩⟩
theorem hb_R23_10 : ∀ M ∈ [mX23_shown, mX23_ran, mX23_word__], ab_mo M = 23 ∧ (ab_my M).cls = RX23 := List.forall_mem_cons.mpr ⟨⟨rfl, rfl⟩, List.forall_mem_cons.mpr ⟨⟨rfl, rfl⟩, List.forall_mem_cons.mpr ⟨⟨rfl, rfl⟩, fun _ h => absurd h List.not_mem_nil⟩⟩⟩
theorem hb_R23 : ∀ M ∈ hb_N23, ab_mo M = 23 ∧ (ab_my M).cls = RX23 := by
  intro M h
  have h : M ∈ [mX23_isName, mX23_isSame, mX23_kindNamed, mX23_callNamed, mX23_layerNamed, mX23_isTold, mX23_isBelow, mX23_makeRows, mX23_isFirst, mX23_joined, mX23_isLetter, mX23_isDigit] ++ ([mX23_isHere, mX23_word, mX23_next, mX23_no, mX23_is, mX23_is_, mX23_want, mX23_want_, mX23_skip, mX23_name, mX23_breaks, mX23_into] ++ ([mX23_counted, mX23_readText, mX23_start, mX23_kind, mX23_call, mX23_layer, mX23_method, mX23_specs, mX23_signed, mX23_isThere, mX23_test, mX23_two] ++ ([mX23_conjunction, mX23_spec, mX23_single, mX23_comparison, mX23_counts, mX23_behind, mX23_e, mX23_under, mX23_compared, mX23_chain, mX23_p, mX23_named] ++ ([mX23_arguments, mX23_has, mX23_rebuild, mX23_fits, mX23_atom, mX23_atoms, mX23_see, mX23_explore, mX23_bound, mX23_both, mX23_not, mX23_takes] ++ ([mX23_holds, mX23_forget, mX23_nearer, mX23_reckoned, mX23_asksMore, mX23_group, mX23_isAlike, mX23_isNew, mX23_nothingIs, mX23_lists, mX23_cells, mX23_place] ++ ([mX23_orderCount, mX23_matter, mX23_nodeCount, mX23_order, mX23_looks, mX23_without, mX23_with, mX23_isOn, mX23_applies, mX23_term, mX23_isTrue, mX23_firstOf] ++ ([mX23_chooseRow, mX23_value, mX23_kindIn, mX23_fault, mX23_ends, mX23_step, mX23_chained, mX23_choose, mX23_further, mX23_inside, mX23_joined_, mX23_judge] ++ ([mX23_collect, mX23_bad, mX23_lookAt, mX23_asksKinds, mX23_isSeveral, mX23_init, mX23_beginning, mX23_tellKind, mX23_thrown, mX23_no_, mX23_feed, mX23_word_] ++ ([mX23_end, mX23_clear, mX23_drop, mX23_set, mX23_count, mX23_isKind, mX23_below, mX23_row, mX23_nearer_, mX23_call_, mX23_run, mX23_told] ++ ([mX23_shown, mX23_ran, mX23_word__])))))))))) := h
  rcases List.mem_append.mp h with h | h
  · exact hb_R23_0 M h
  rcases List.mem_append.mp h with h | h
  · exact hb_R23_1 M h
  rcases List.mem_append.mp h with h | h
  · exact hb_R23_2 M h
  rcases List.mem_append.mp h with h | h
  · exact hb_R23_3 M h
  rcases List.mem_append.mp h with h | h
  · exact hb_R23_4 M h
  rcases List.mem_append.mp h with h | h
  · exact hb_R23_5 M h
  rcases List.mem_append.mp h with h | h
  · exact hb_R23_6 M h
  rcases List.mem_append.mp h with h | h
  · exact hb_R23_7 M h
  rcases List.mem_append.mp h with h | h
  · exact hb_R23_8 M h
  rcases List.mem_append.mp h with h | h
  · exact hb_R23_9 M h
  exact hb_R23_10 M h
theorem hb_R31_0 : ∀ M ∈ [mJ11_isValidCodePoint_9a6ad, mJ11_highSurrogate_5068e, mJ11_lowSurrogate_5068e], ab_mo M = 31 ∧ (ab_my M).cls = RJ11 := List.forall_mem_cons.mpr ⟨⟨rfl, rfl⟩, List.forall_mem_cons.mpr ⟨⟨rfl, rfl⟩, List.forall_mem_cons.mpr ⟨⟨rfl, rfl⟩, fun _ h => absurd h List.not_mem_nil⟩⟩⟩
theorem hb_R31 : ∀ M ∈ hb_N31, ab_mo M = 31 ∧ (ab_my M).cls = RJ11 := by
  intro M h
  have h : M ∈ [mJ11_isValidCodePoint_9a6ad, mJ11_highSurrogate_5068e, mJ11_lowSurrogate_5068e] := h
  exact hb_R31_0 M h
theorem hb_R33_0 : ∀ M ∈ [mJ6_compare_7cf53, mJ6_numberOfTrailingZeros_0f7a4, mJ6_bitCount_0f7a4], ab_mo M = 33 ∧ (ab_my M).cls = RJ6 := List.forall_mem_cons.mpr ⟨⟨rfl, rfl⟩, List.forall_mem_cons.mpr ⟨⟨rfl, rfl⟩, List.forall_mem_cons.mpr ⟨⟨rfl, rfl⟩, fun _ h => absurd h List.not_mem_nil⟩⟩⟩
theorem hb_R33 : ∀ M ∈ hb_N33, ab_mo M = 33 ∧ (ab_my M).cls = RJ6 := by
  intro M h
  have h : M ∈ [mJ6_compare_7cf53, mJ6_numberOfTrailingZeros_0f7a4, mJ6_bitCount_0f7a4] := h
  exact hb_R33_0 M h
theorem hb_R35_0 : ∀ M ∈ [mJ13_numberOfTrailingZeros_95d88, mJ13_bitCount_95d88, mJ13_signum_95d88], ab_mo M = 35 ∧ (ab_my M).cls = RJ13 := List.forall_mem_cons.mpr ⟨⟨rfl, rfl⟩, List.forall_mem_cons.mpr ⟨⟨rfl, rfl⟩, List.forall_mem_cons.mpr ⟨⟨rfl, rfl⟩, fun _ h => absurd h List.not_mem_nil⟩⟩⟩
theorem hb_R35 : ∀ M ∈ hb_N35, ab_mo M = 35 ∧ (ab_my M).cls = RJ13 := by
  intro M h
  have h : M ∈ [mJ13_numberOfTrailingZeros_95d88, mJ13_bitCount_95d88, mJ13_signum_95d88] := h
  exact hb_R35_0 M h
theorem hb_R37_0 : ∀ M ∈ [mJ0_length_8abf5, mJ0_charAt_5068e, mJ0_equals_9ea2d, mJ0_indexOf_0f7a4, mJ0_indexOf_7cf53, mJ0_coder_7d493, mJ0_isLatin1_aae02, mJ0_checkIndex_df160, mJ0_checkBoundsBeginEnd_23922], ab_mo M = 37 ∧ (ab_my M).cls = RJ0 := List.forall_mem_cons.mpr ⟨⟨rfl, rfl⟩, List.forall_mem_cons.mpr ⟨⟨rfl, rfl⟩, List.forall_mem_cons.mpr ⟨⟨rfl, rfl⟩, List.forall_mem_cons.mpr ⟨⟨rfl, rfl⟩, List.forall_mem_cons.mpr ⟨⟨rfl, rfl⟩, List.forall_mem_cons.mpr ⟨⟨rfl, rfl⟩, List.forall_mem_cons.mpr ⟨⟨rfl, rfl⟩, List.forall_mem_cons.mpr ⟨⟨rfl, rfl⟩, List.forall_mem_cons.mpr ⟨⟨rfl, rfl⟩, fun _ h => absurd h List.not_mem_nil⟩⟩⟩⟩⟩⟩⟩⟩⟩
theorem hb_R37 : ∀ M ∈ hb_N37, ab_mo M = 37 ∧ (ab_my M).cls = RJ0 := by
  intro M h
  have h : M ∈ [mJ0_length_8abf5, mJ0_charAt_5068e, mJ0_equals_9ea2d, mJ0_indexOf_0f7a4, mJ0_indexOf_7cf53, mJ0_coder_7d493, mJ0_isLatin1_aae02, mJ0_checkIndex_df160, mJ0_checkBoundsBeginEnd_23922] := h
  exact hb_R37_0 M h
theorem hb_R38_0 : ∀ M ∈ [mJ1_charAt_3b067, mJ1_canEncode_9a6ad, mJ1_equals_b5fdf, mJ1_indexOf_4cfef, mJ1_indexOfChar_4cfef], ab_mo M = 38 ∧ (ab_my M).cls = RJ1 := List.forall_mem_cons.mpr ⟨⟨rfl, rfl⟩, List.forall_mem_cons.mpr ⟨⟨rfl, rfl⟩, List.forall_mem_cons.mpr ⟨⟨rfl, rfl⟩, List.forall_mem_cons.mpr ⟨⟨rfl, rfl⟩, List.forall_mem_cons.mpr ⟨⟨rfl, rfl⟩, fun _ h => absurd h List.not_mem_nil⟩⟩⟩⟩⟩
theorem hb_R38 : ∀ M ∈ hb_N38, ab_mo M = 38 ∧ (ab_my M).cls = RJ1 := by
  intro M h
  have h : M ∈ [mJ1_charAt_3b067, mJ1_canEncode_9a6ad, mJ1_equals_b5fdf, mJ1_indexOf_4cfef, mJ1_indexOfChar_4cfef] := h
  exact hb_R38_0 M h
theorem hb_R39_0 : ∀ M ∈ [mJ2_getChar_3b067, mJ2_length_9d52b, mJ2_indexOf_4cfef, mJ2_indexOfChar_4cfef, mJ2_indexOfCharUnsafe_4cfef, mJ2_indexOfSupplementary_4cfef, mJ2_charAt_3b067, mJ2_checkIndex_2214a, mJ2_checkBoundsBeginEnd_d044e], ab_mo M = 39 ∧ (ab_my M).cls = RJ2 := List.forall_mem_cons.mpr ⟨⟨rfl, rfl⟩, List.forall_mem_cons.mpr ⟨⟨rfl, rfl⟩, List.forall_mem_cons.mpr ⟨⟨rfl, rfl⟩, List.forall_mem_cons.mpr ⟨⟨rfl, rfl⟩, List.forall_mem_cons.mpr ⟨⟨rfl, rfl⟩, List.forall_mem_cons.mpr ⟨⟨rfl, rfl⟩, List.forall_mem_cons.mpr ⟨⟨rfl, rfl⟩, List.forall_mem_cons.mpr ⟨⟨rfl, rfl⟩, List.forall_mem_cons.mpr ⟨⟨rfl, rfl⟩, fun _ h => absurd h List.not_mem_nil⟩⟩⟩⟩⟩⟩⟩⟩⟩
theorem hb_R39 : ∀ M ∈ hb_N39, ab_mo M = 39 ∧ (ab_my M).cls = RJ2 := by
  intro M h
  have h : M ∈ [mJ2_getChar_3b067, mJ2_length_9d52b, mJ2_indexOf_4cfef, mJ2_indexOfChar_4cfef, mJ2_indexOfCharUnsafe_4cfef, mJ2_indexOfSupplementary_4cfef, mJ2_charAt_3b067, mJ2_checkIndex_2214a, mJ2_checkBoundsBeginEnd_d044e] := h
  exact hb_R39_0 M h
theorem hb_R41_0 : ∀ M ∈ [mJxa1e45_init_da8c8], ab_mo M = 41 ∧ (ab_my M).cls = RJxa1e45 := List.forall_mem_cons.mpr ⟨⟨rfl, rfl⟩, fun _ h => absurd h List.not_mem_nil⟩
theorem hb_R41 : ∀ M ∈ hb_N41, ab_mo M = 41 ∧ (ab_my M).cls = RJxa1e45 := by
  intro M h
  have h : M ∈ [mJxa1e45_init_da8c8] := h
  exact hb_R41_0 M h
theorem hb_R42_0 : ∀ M ∈ [mJxc12de_init_da8c8], ab_mo M = 42 ∧ (ab_my M).cls = RJxc12de := List.forall_mem_cons.mpr ⟨⟨rfl, rfl⟩, fun _ h => absurd h List.not_mem_nil⟩
theorem hb_R42 : ∀ M ∈ hb_N42, ab_mo M = 42 ∧ (ab_my M).cls = RJxc12de := by
  intro M h
  have h : M ∈ [mJxc12de_init_da8c8] := h
  exact hb_R42_0 M h
theorem hb_R43_0 : ∀ M ∈ [mJx4a65c_init_da8c8, mJx4a65c_grow_92f84, mJx4a65c_grow_d5877, mJx4a65c_size_8abf5, mJx4a65c_elementData_915e3, mJx4a65c_get_915e3, mJx4a65c_add_72be8, mJx4a65c_add_9ea2d], ab_mo M = 43 ∧ (ab_my M).cls = RJx4a65c := List.forall_mem_cons.mpr ⟨⟨rfl, rfl⟩, List.forall_mem_cons.mpr ⟨⟨rfl, rfl⟩, List.forall_mem_cons.mpr ⟨⟨rfl, rfl⟩, List.forall_mem_cons.mpr ⟨⟨rfl, rfl⟩, List.forall_mem_cons.mpr ⟨⟨rfl, rfl⟩, List.forall_mem_cons.mpr ⟨⟨rfl, rfl⟩, List.forall_mem_cons.mpr ⟨⟨rfl, rfl⟩, List.forall_mem_cons.mpr ⟨⟨rfl, rfl⟩, fun _ h => absurd h List.not_mem_nil⟩⟩⟩⟩⟩⟩⟩⟩
theorem hb_R43 : ∀ M ∈ hb_N43, ab_mo M = 43 ∧ (ab_my M).cls = RJx4a65c := by
  intro M h
  have h : M ∈ [mJx4a65c_init_da8c8, mJx4a65c_grow_92f84, mJx4a65c_grow_d5877, mJx4a65c_size_8abf5, mJx4a65c_elementData_915e3, mJx4a65c_get_915e3, mJx4a65c_add_72be8, mJx4a65c_add_9ea2d] := h
  exact hb_R43_0 M h
theorem hb_R44_0 : ∀ M ∈ [mJ7_fill_d0a16, mJ7_fill_53178, mJ7_copyOf_1904c, mJ7_copyOf_6403c, mJ7_copyOf_9075b, mJ7_copyOf_59c91], ab_mo M = 44 ∧ (ab_my M).cls = RJ7 := List.forall_mem_cons.mpr ⟨⟨rfl, rfl⟩, List.forall_mem_cons.mpr ⟨⟨rfl, rfl⟩, List.forall_mem_cons.mpr ⟨⟨rfl, rfl⟩, List.forall_mem_cons.mpr ⟨⟨rfl, rfl⟩, List.forall_mem_cons.mpr ⟨⟨rfl, rfl⟩, List.forall_mem_cons.mpr ⟨⟨rfl, rfl⟩, fun _ h => absurd h List.not_mem_nil⟩⟩⟩⟩⟩⟩
theorem hb_R44 : ∀ M ∈ hb_N44, ab_mo M = 44 ∧ (ab_my M).cls = RJ7 := by
  intro M h
  have h : M ∈ [mJ7_fill_d0a16, mJ7_fill_53178, mJ7_copyOf_1904c, mJ7_copyOf_6403c, mJ7_copyOf_9075b, mJ7_copyOf_59c91] := h
  exact hb_R44_0 M h
theorem hb_R47_0 : ∀ M ∈ [mJ15_checkIndex_7cf53], ab_mo M = 47 ∧ (ab_my M).cls = RJ15 := List.forall_mem_cons.mpr ⟨⟨rfl, rfl⟩, fun _ h => absurd h List.not_mem_nil⟩
theorem hb_R47 : ∀ M ∈ hb_N47, ab_mo M = 47 ∧ (ab_my M).cls = RJ15 := by
  intro M h
  have h : M ∈ [mJ15_checkIndex_7cf53] := h
  exact hb_R47_0 M h
theorem hb_R50_0 : ∀ M ∈ [mJ8_newLength_cabcc, mJ8_hugeLength_7cf53], ab_mo M = 50 ∧ (ab_my M).cls = RJ8 := List.forall_mem_cons.mpr ⟨⟨rfl, rfl⟩, List.forall_mem_cons.mpr ⟨⟨rfl, rfl⟩, fun _ h => absurd h List.not_mem_nil⟩⟩
theorem hb_R50 : ∀ M ∈ hb_N50, ab_mo M = 50 ∧ (ab_my M).cls = RJ8 := by
  intro M h
  have h : M ∈ [mJ8_newLength_cabcc, mJ8_hugeLength_7cf53] := h
  exact hb_R50_0 M h
theorem hb_R51_0 : ∀ M ∈ [mJ3_checkIndex_8e157, mJ3_checkFromToIndex_8c36e], ab_mo M = 51 ∧ (ab_my M).cls = RJ3 := List.forall_mem_cons.mpr ⟨⟨rfl, rfl⟩, List.forall_mem_cons.mpr ⟨⟨rfl, rfl⟩, fun _ h => absurd h List.not_mem_nil⟩⟩
theorem hb_R51 : ∀ M ∈ hb_N51, ab_mo M = 51 ∧ (ab_my M).cls = RJ3 := by
  intro M h
  have h : M ∈ [mJ3_checkIndex_8e157, mJ3_checkFromToIndex_8c36e] := h
  exact hb_R51_0 M h
theorem hb_R60_0 : ∀ M ∈ [mZR15_init], ab_mo M = 60 ∧ (ab_my M).cls = RZR15 := List.forall_mem_cons.mpr ⟨⟨rfl, rfl⟩, fun _ h => absurd h List.not_mem_nil⟩
theorem hb_R60 : ∀ M ∈ hb_N60, ab_mo M = 60 ∧ (ab_my M).cls = RZR15 := by
  intro M h
  have h : M ∈ [mZR15_init] := h
  exact hb_R60_0 M h
theorem hb_R61_0 : ∀ M ∈ [mZE15_init], ab_mo M = 61 ∧ (ab_my M).cls = RZE15 := List.forall_mem_cons.mpr ⟨⟨rfl, rfl⟩, fun _ h => absurd h List.not_mem_nil⟩
theorem hb_R61 : ∀ M ∈ hb_N61, ab_mo M = 61 ∧ (ab_my M).cls = RZE15 := by
  intro M h
  have h : M ∈ [mZE15_init] := h
  exact hb_R61_0 M h
theorem hb_R62_0 : ∀ M ∈ [mZT15_init], ab_mo M = 62 ∧ (ab_my M).cls = RZT15 := List.forall_mem_cons.mpr ⟨⟨rfl, rfl⟩, fun _ h => absurd h List.not_mem_nil⟩
theorem hb_R62 : ∀ M ∈ hb_N62, ab_mo M = 62 ∧ (ab_my M).cls = RZT15 := by
  intro M h
  have h : M ∈ [mZT15_init] := h
  exact hb_R62_0 M h
theorem hb_R63_0 : ∀ M ∈ [mZR16_init], ab_mo M = 63 ∧ (ab_my M).cls = RZR16 := List.forall_mem_cons.mpr ⟨⟨rfl, rfl⟩, fun _ h => absurd h List.not_mem_nil⟩
theorem hb_R63 : ∀ M ∈ hb_N63, ab_mo M = 63 ∧ (ab_my M).cls = RZR16 := by
  intro M h
  have h : M ∈ [mZR16_init] := h
  exact hb_R63_0 M h
theorem hb_R64_0 : ∀ M ∈ [mZE16_init], ab_mo M = 64 ∧ (ab_my M).cls = RZE16 := List.forall_mem_cons.mpr ⟨⟨rfl, rfl⟩, fun _ h => absurd h List.not_mem_nil⟩
theorem hb_R64 : ∀ M ∈ hb_N64, ab_mo M = 64 ∧ (ab_my M).cls = RZE16 := by
  intro M h
  have h : M ∈ [mZE16_init] := h
  exact hb_R64_0 M h
theorem hb_R65_0 : ∀ M ∈ [mZT16_init], ab_mo M = 65 ∧ (ab_my M).cls = RZT16 := List.forall_mem_cons.mpr ⟨⟨rfl, rfl⟩, fun _ h => absurd h List.not_mem_nil⟩
theorem hb_R65 : ∀ M ∈ hb_N65, ab_mo M = 65 ∧ (ab_my M).cls = RZT16 := by
  intro M h
  have h : M ∈ [mZT16_init] := h
  exact hb_R65_0 M h
theorem hb_R66_0 : ∀ M ∈ [mZR22_init], ab_mo M = 66 ∧ (ab_my M).cls = RZR22 := List.forall_mem_cons.mpr ⟨⟨rfl, rfl⟩, fun _ h => absurd h List.not_mem_nil⟩
theorem hb_R66 : ∀ M ∈ hb_N66, ab_mo M = 66 ∧ (ab_my M).cls = RZR22 := by
  intro M h
  have h : M ∈ [mZR22_init] := h
  exact hb_R66_0 M h
theorem hb_R67_0 : ∀ M ∈ [mZE22_init], ab_mo M = 67 ∧ (ab_my M).cls = RZE22 := List.forall_mem_cons.mpr ⟨⟨rfl, rfl⟩, fun _ h => absurd h List.not_mem_nil⟩
theorem hb_R67 : ∀ M ∈ hb_N67, ab_mo M = 67 ∧ (ab_my M).cls = RZE22 := by
  intro M h
  have h : M ∈ [mZE22_init] := h
  exact hb_R67_0 M h
theorem hb_R68_0 : ∀ M ∈ [mZT22_init], ab_mo M = 68 ∧ (ab_my M).cls = RZT22 := List.forall_mem_cons.mpr ⟨⟨rfl, rfl⟩, fun _ h => absurd h List.not_mem_nil⟩
theorem hb_R68 : ∀ M ∈ hb_N68, ab_mo M = 68 ∧ (ab_my M).cls = RZT22 := by
  intro M h
  have h : M ∈ [mZT22_init] := h
  exact hb_R68_0 M h
theorem hb_R52 : ∀ M ∈ hb_N52, ab_mo M = 52 ∧ (ab_my M).cls = RL := fun _ h => absurd h List.not_mem_nil
theorem hb_own {O : Nat → Option FieldType} {X : ab_X} {q : Nat} {own : String} (h : ab_own (hb_Gx O X) q own) : own = hb_Rn q := by
  rcases h with ⟨y, M, h1, h2, h3⟩ | ⟨h1, h2⟩
  · have h := List.mem_of_getElem? (show (hb_Mc (y / 256))[y % 256]? = some M from h1)
    unfold hb_Mc at h
    split at h
    · obtain ⟨a, b⟩ := hb_R0 _ h
      rw [← h2, ← h3, a, b]
      rfl
    · obtain ⟨a, b⟩ := hb_R1 _ h
      rw [← h2, ← h3, a, b]
      rfl
    · obtain ⟨a, b⟩ := hb_R2 _ h
      rw [← h2, ← h3, a, b]
      rfl
    · obtain ⟨a, b⟩ := hb_R3 _ h
      rw [← h2, ← h3, a, b]
      rfl
    · obtain ⟨a, b⟩ := hb_R4 _ h
      rw [← h2, ← h3, a, b]
      rfl
    · obtain ⟨a, b⟩ := hb_R5 _ h
      rw [← h2, ← h3, a, b]
      rfl
    · obtain ⟨a, b⟩ := hb_R6 _ h
      rw [← h2, ← h3, a, b]
      rfl
    · obtain ⟨a, b⟩ := hb_R7 _ h
      rw [← h2, ← h3, a, b]
      rfl
    · obtain ⟨a, b⟩ := hb_R8 _ h
      rw [← h2, ← h3, a, b]
      rfl
    · obtain ⟨a, b⟩ := hb_R9 _ h
      rw [← h2, ← h3, a, b]
      rfl
    · obtain ⟨a, b⟩ := hb_R10 _ h
      rw [← h2, ← h3, a, b]
      rfl
    · obtain ⟨a, b⟩ := hb_R11 _ h
      rw [← h2, ← h3, a, b]
      rfl
    · obtain ⟨a, b⟩ := hb_R12 _ h
      rw [← h2, ← h3, a, b]
      rfl
    · obtain ⟨a, b⟩ := hb_R13 _ h
      rw [← h2, ← h3, a, b]
      rfl
    · obtain ⟨a, b⟩ := hb_R14 _ h
      rw [← h2, ← h3, a, b]
      rfl
    · obtain ⟨a, b⟩ := hb_R15 _ h
      rw [← h2, ← h3, a, b]
      rfl
    · obtain ⟨a, b⟩ := hb_R16 _ h
      rw [← h2, ← h3, a, b]
      rfl
    · obtain ⟨a, b⟩ := hb_R17 _ h
      rw [← h2, ← h3, a, b]
      rfl
    · obtain ⟨a, b⟩ := hb_R18 _ h
      rw [← h2, ← h3, a, b]
      rfl
    · obtain ⟨a, b⟩ := hb_R19 _ h
      rw [← h2, ← h3, a, b]
      rfl
    · obtain ⟨a, b⟩ := hb_R20 _ h
      rw [← h2, ← h3, a, b]
      rfl
    · obtain ⟨a, b⟩ := hb_R21 _ h
      rw [← h2, ← h3, a, b]
      rfl
    · obtain ⟨a, b⟩ := hb_R22 _ h
      rw [← h2, ← h3, a, b]
      rfl
    · obtain ⟨a, b⟩ := hb_R23 _ h
      rw [← h2, ← h3, a, b]
      rfl
    · obtain ⟨a, b⟩ := hb_R31 _ h
      rw [← h2, ← h3, a, b]
      rfl
    · obtain ⟨a, b⟩ := hb_R33 _ h
      rw [← h2, ← h3, a, b]
      rfl
    · obtain ⟨a, b⟩ := hb_R35 _ h
      rw [← h2, ← h3, a, b]
      rfl
    · obtain ⟨a, b⟩ := hb_R37 _ h
      rw [← h2, ← h3, a, b]
      rfl
    · obtain ⟨a, b⟩ := hb_R38 _ h
      rw [← h2, ← h3, a, b]
      rfl
    · obtain ⟨a, b⟩ := hb_R39 _ h
      rw [← h2, ← h3, a, b]
      rfl
    · obtain ⟨a, b⟩ := hb_R41 _ h
      rw [← h2, ← h3, a, b]
      rfl
    · obtain ⟨a, b⟩ := hb_R42 _ h
      rw [← h2, ← h3, a, b]
      rfl
    · obtain ⟨a, b⟩ := hb_R43 _ h
      rw [← h2, ← h3, a, b]
      rfl
    · obtain ⟨a, b⟩ := hb_R44 _ h
      rw [← h2, ← h3, a, b]
      rfl
    · obtain ⟨a, b⟩ := hb_R47 _ h
      rw [← h2, ← h3, a, b]
      rfl
    · obtain ⟨a, b⟩ := hb_R50 _ h
      rw [← h2, ← h3, a, b]
      rfl
    · obtain ⟨a, b⟩ := hb_R51 _ h
      rw [← h2, ← h3, a, b]
      rfl
    · obtain ⟨a, b⟩ := hb_R60 _ h
      rw [← h2, ← h3, a, b]
      rfl
    · obtain ⟨a, b⟩ := hb_R61 _ h
      rw [← h2, ← h3, a, b]
      rfl
    · obtain ⟨a, b⟩ := hb_R62 _ h
      rw [← h2, ← h3, a, b]
      rfl
    · obtain ⟨a, b⟩ := hb_R63 _ h
      rw [← h2, ← h3, a, b]
      rfl
    · obtain ⟨a, b⟩ := hb_R64 _ h
      rw [← h2, ← h3, a, b]
      rfl
    · obtain ⟨a, b⟩ := hb_R65 _ h
      rw [← h2, ← h3, a, b]
      rfl
    · obtain ⟨a, b⟩ := hb_R66 _ h
      rw [← h2, ← h3, a, b]
      rfl
    · obtain ⟨a, b⟩ := hb_R67 _ h
      rw [← h2, ← h3, a, b]
      rfl
    · obtain ⟨a, b⟩ := hb_R68 _ h
      rw [← h2, ← h3, a, b]
      rfl
    · obtain ⟨a, b⟩ := hb_R52 _ h
      rw [← h2, ← h3, a, b]
      rfl
    · cases h
  · rw [h1, h2]
    rfl
theorem hb_MX_ge {y : Nat} {M : ab_MX} (h : hb_MX y = some M) : 200 ≤ y % 256 := by
  unfold hb_MX at h
  split at h
  all_goals first | decide | (cases h; done)
theorem hb_Mc_len (q : Nat) : (hb_Mc q).length ≤ 200 := by
  unfold hb_Mc
  split
  all_goals decide
theorem hb_MX_no {O : Nat → Option FieldType} {X : ab_X} (y : Nat) (M : ab_MI) (h : ab_gM (hb_Gx O X) y = some M) : hb_GT.2.2.2 y = none := by
  have h1 := (List.getElem?_eq_some_iff.mp (show (hb_Mc (y / 256))[y % 256]? = some M from h)).1
  have h2 := hb_Mc_len (y / 256)
  cases h3 : hb_GT.2.2.2 y with
  | none => rfl
  | some M2 =>
    have := hb_MX_ge h3
    omega
theorem hb_Tl0 : ∀ ix sort y na ci : Nat, hb_T0 ix = some (sort, y, na, ci) → y % 256 < 200 := by
  intro ix sort y na ci h
  unfold hb_T0 at h
  split at h
  all_goals cases h
  all_goals decide
theorem hb_Tl1 : ∀ ix sort y na ci : Nat, hb_T1 ix = some (sort, y, na, ci) → y % 256 < 200 := by
  intro ix sort y na ci h
  unfold hb_T1 at h
  split at h
  all_goals cases h
  all_goals decide
theorem hb_Tl2 : ∀ ix sort y na ci : Nat, hb_T2 ix = some (sort, y, na, ci) → y % 256 < 200 := by
  intro ix sort y na ci h
  unfold hb_T2 at h
  split at h
  all_goals cases h
  all_goals decide
theorem hb_Tl3 : ∀ ix sort y na ci : Nat, hb_T3 ix = some (sort, y, na, ci) → y % 256 < 200 := by
  intro ix sort y na ci h
  unfold hb_T3 at h
  split at h
  all_goals cases h
  all_goals decide
theorem hb_Tl4 : ∀ ix sort y na ci : Nat, hb_T4 ix = some (sort, y, na, ci) → y % 256 < 200 := by
  intro ix sort y na ci h
  unfold hb_T4 at h
  split at h
  all_goals cases h
  all_goals decide
theorem hb_Tl5 : ∀ ix sort y na ci : Nat, hb_T5 ix = some (sort, y, na, ci) → y % 256 < 200 := by
  intro ix sort y na ci h
  unfold hb_T5 at h
  split at h
  all_goals cases h
  all_goals decide
theorem hb_Tl6 : ∀ ix sort y na ci : Nat, hb_T6 ix = some (sort, y, na, ci) → y % 256 < 200 := by
  intro ix sort y na ci h
  unfold hb_T6 at h
  split at h
  all_goals cases h
  all_goals decide
theorem hb_Tl7 : ∀ ix sort y na ci : Nat, hb_T7 ix = some (sort, y, na, ci) → y % 256 < 200 := by
  intro ix sort y na ci h
  unfold hb_T7 at h
  split at h
  all_goals cases h
  all_goals decide
theorem hb_Tl8 : ∀ ix sort y na ci : Nat, hb_T8 ix = some (sort, y, na, ci) → y % 256 < 200 := by
  intro ix sort y na ci h
  unfold hb_T8 at h
  split at h
  all_goals cases h
  all_goals decide
theorem hb_Tl9 : ∀ ix sort y na ci : Nat, hb_T9 ix = some (sort, y, na, ci) → y % 256 < 200 := by
  intro ix sort y na ci h
  unfold hb_T9 at h
  split at h
  all_goals cases h
  all_goals decide
theorem hb_Tl10 : ∀ ix sort y na ci : Nat, hb_T10 ix = some (sort, y, na, ci) → y % 256 < 200 := by
  intro ix sort y na ci h
  unfold hb_T10 at h
  split at h
  all_goals cases h
  all_goals decide
theorem hb_Tl11 : ∀ ix sort y na ci : Nat, hb_T11 ix = some (sort, y, na, ci) → y % 256 < 200 := by
  intro ix sort y na ci h
  unfold hb_T11 at h
  split at h
  all_goals cases h
  all_goals decide
theorem hb_Tl12 : ∀ ix sort y na ci : Nat, hb_T12 ix = some (sort, y, na, ci) → y % 256 < 200 := by
  intro ix sort y na ci h
  unfold hb_T12 at h
  split at h
  all_goals cases h
  all_goals decide
theorem hb_Tl13 : ∀ ix sort y na ci : Nat, hb_T13 ix = some (sort, y, na, ci) → y % 256 < 200 := by
  intro ix sort y na ci h
  unfold hb_T13 at h
  split at h
  all_goals cases h
  all_goals decide
theorem hb_Tl14 : ∀ ix sort y na ci : Nat, hb_T14 ix = some (sort, y, na, ci) → y % 256 < 200 := by
  intro ix sort y na ci h
  unfold hb_T14 at h
  split at h
  all_goals cases h
  all_goals decide
theorem hb_Tl15 : ∀ ix sort y na ci : Nat, hb_T15 ix = some (sort, y, na, ci) → y % 256 < 200 := by
  intro ix sort y na ci h
  unfold hb_T15 at h
  split at h
  all_goals cases h
  all_goals decide
theorem hb_Tl16 : ∀ ix sort y na ci : Nat, hb_T16 ix = some (sort, y, na, ci) → y % 256 < 200 := by
  intro ix sort y na ci h
  unfold hb_T16 at h
  split at h
  all_goals cases h
  all_goals decide
theorem hb_Tl17 : ∀ ix sort y na ci : Nat, hb_T17 ix = some (sort, y, na, ci) → y % 256 < 200 := by
  intro ix sort y na ci h
  unfold hb_T17 at h
  split at h
  all_goals cases h
  all_goals decide
theorem hb_Tl18 : ∀ ix sort y na ci : Nat, hb_T18 ix = some (sort, y, na, ci) → y % 256 < 200 := by
  intro ix sort y na ci h
  unfold hb_T18 at h
  split at h
  all_goals cases h
  all_goals decide
theorem hb_Tl19 : ∀ ix sort y na ci : Nat, hb_T19 ix = some (sort, y, na, ci) → y % 256 < 200 := by
  intro ix sort y na ci h
  unfold hb_T19 at h
  split at h
  all_goals cases h
  all_goals decide
theorem hb_Tl20 : ∀ ix sort y na ci : Nat, hb_T20 ix = some (sort, y, na, ci) → y % 256 < 200 := by
  intro ix sort y na ci h
  unfold hb_T20 at h
  split at h
  all_goals cases h
  all_goals decide
theorem hb_Tl21 : ∀ ix sort y na ci : Nat, hb_T21 ix = some (sort, y, na, ci) → y % 256 < 200 := by
  intro ix sort y na ci h
  unfold hb_T21 at h
  split at h
  all_goals cases h
  all_goals decide
theorem hb_Tl22 : ∀ ix sort y na ci : Nat, hb_T22 ix = some (sort, y, na, ci) → y % 256 < 200 := by
  intro ix sort y na ci h
  unfold hb_T22 at h
  split at h
  all_goals cases h
  all_goals decide
theorem hb_Tx23 : ∀ ix sort y na ci : Nat, hb_T23 ix = some (sort, y, na, ci) → ∀ M' : ab_MX, hb_MX y = some M' → Cond.methodLink RX23 ix (ab_my M'.1) ∈ hb_TB ∧ Cond.initialized (ab_my M'.1).cls ∈ hb_TB ∧ ((ab_my M'.1).cls ≠ "java/lang/invoke/MethodHandle" ∧ (ab_my M'.1).cls ≠ "java/lang/invoke/VarHandle" ∧ (parseMethodDescriptor (ab_my M'.1).desc).map (fun d => d.parameters.length) = some na) ∧
    (sort = 0 ∧ Cond.instanceMethod (ab_my M'.1) ∈ hb_TB ∧ Cond.selects (ab_my M'.1).cls (ab_my M'.1) (ab_my M'.1) ∈ hb_TB ∧ (∃ q : vw_C, vwCl[ci]? = some q ∧ q.1 = (ab_my M'.1).cls) ∨ sort = 1 ∧ Cond.static (ab_my M'.1) ∈ hb_TB) := by
  intro ix sort y na ci h M' hM'
  unfold hb_T23 at h
  split at h
  · cases h
    exact absurd (hb_MX_ge hM') (by decide)
  · cases h
    exact absurd (hb_MX_ge hM') (by decide)
  · cases h
    exact absurd (hb_MX_ge hM') (by decide)
  · cases h
    exact absurd (hb_MX_ge hM') (by decide)
  · cases h
    exact absurd (hb_MX_ge hM') (by decide)
  · cases h
    exact absurd (hb_MX_ge hM') (by decide)
  · cases h
    exact absurd (hb_MX_ge hM') (by decide)
  · cases h
    exact absurd (hb_MX_ge hM') (by decide)
  · cases h
    exact absurd (hb_MX_ge hM') (by decide)
  · cases h
    exact absurd (hb_MX_ge hM') (by decide)
  · cases h
    exact absurd (hb_MX_ge hM') (by decide)
  · cases h
    exact absurd (hb_MX_ge hM') (by decide)
  · cases h
    exact absurd (hb_MX_ge hM') (by decide)
  · cases h
    exact absurd (hb_MX_ge hM') (by decide)
  · cases h
    exact absurd (hb_MX_ge hM') (by decide)
  · cases h
    exact absurd (hb_MX_ge hM') (by decide)
  · cases h
    exact absurd (hb_MX_ge hM') (by decide)
  · cases h
    exact absurd (hb_MX_ge hM') (by decide)
  · cases h
    exact absurd (hb_MX_ge hM') (by decide)
  · cases h
    exact absurd (hb_MX_ge hM') (by decide)
  · cases h
    exact absurd (hb_MX_ge hM') (by decide)
  · cases h
    exact absurd (hb_MX_ge hM') (by decide)
  · cases h
    exact absurd (hb_MX_ge hM') (by decide)
  · cases h
    exact absurd (hb_MX_ge hM') (by decide)
  · cases h
    exact absurd (hb_MX_ge hM') (by decide)
  · cases h
    exact absurd (hb_MX_ge hM') (by decide)
  · cases h
    exact absurd (hb_MX_ge hM') (by decide)
  · cases h
    exact absurd (hb_MX_ge hM') (by decide)
  · cases h
    exact absurd (hb_MX_ge hM') (by decide)
  · cases h
    exact absurd (hb_MX_ge hM') (by decide)
  · cases h
    exact absurd (hb_MX_ge hM') (by decide)
  · cases h
    exact absurd (hb_MX_ge hM') (by decide)
  · cases h
    exact absurd (hb_MX_ge hM') (by decide)
  · cases h
    exact absurd (hb_MX_ge hM') (by decide)
  · cases h
    exact absurd (hb_MX_ge hM') (by decide)
  · cases h
    exact absurd (hb_MX_ge hM') (by decide)
  · cases h
    exact absurd (hb_MX_ge hM') (by decide)
  · cases h
    exact absurd (hb_MX_ge hM') (by decide)
  · cases h
    exact absurd (hb_MX_ge hM') (by decide)
  · cases h
    exact absurd (hb_MX_ge hM') (by decide)
  · cases h
    exact absurd (hb_MX_ge hM') (by decide)
  · cases h
    exact absurd (hb_MX_ge hM') (by decide)
  · cases h
    exact absurd (hb_MX_ge hM') (by decide)
  · cases h
    exact absurd (hb_MX_ge hM') (by decide)
  · cases h
    exact absurd (hb_MX_ge hM') (by decide)
  · cases h
    exact absurd (hb_MX_ge hM') (by decide)
  · cases h
    exact absurd (hb_MX_ge hM') (by decide)
  · cases h
    exact absurd (hb_MX_ge hM') (by decide)
  · cases h
    exact absurd (hb_MX_ge hM') (by decide)
  · cases h
    exact absurd (hb_MX_ge hM') (by decide)
  · cases h
    exact absurd (hb_MX_ge hM') (by decide)
  · cases h
    exact absurd (hb_MX_ge hM') (by decide)
  · cases h
    exact absurd (hb_MX_ge hM') (by decide)
  · cases h
    exact absurd (hb_MX_ge hM') (by decide)
  · cases h
    exact absurd (hb_MX_ge hM') (by decide)
  · cases h
    exact absurd (hb_MX_ge hM') (by decide)
  · cases h
    exact absurd (hb_MX_ge hM') (by decide)
  · cases h
    exact absurd (hb_MX_ge hM') (by decide)
  · cases h
    exact absurd (hb_MX_ge hM') (by decide)
  · cases h
    exact absurd (hb_MX_ge hM') (by decide)
  · cases h
    exact absurd (hb_MX_ge hM') (by decide)
  · cases h
    exact absurd (hb_MX_ge hM') (by decide)
  · cases h
    exact absurd (hb_MX_ge hM') (by decide)
  · cases h
    exact absurd (hb_MX_ge hM') (by decide)
  · cases h
    exact absurd (hb_MX_ge hM') (by decide)
  · cases h
    exact absurd (hb_MX_ge hM') (by decide)
  · cases h
    exact absurd (hb_MX_ge hM') (by decide)
  · cases h
    exact absurd (hb_MX_ge hM') (by decide)
  · cases h
    exact absurd (hb_MX_ge hM') (by decide)
  · cases h
    exact absurd (hb_MX_ge hM') (by decide)
  · cases h
    exact absurd (hb_MX_ge hM') (by decide)
  · cases h
    exact absurd (hb_MX_ge hM') (by decide)
  · cases h
    exact absurd (hb_MX_ge hM') (by decide)
  · cases h
    exact absurd (hb_MX_ge hM') (by decide)
  · cases h
    exact absurd (hb_MX_ge hM') (by decide)
  · cases h
    exact absurd (hb_MX_ge hM') (by decide)
  · cases h
    exact absurd (hb_MX_ge hM') (by decide)
  · cases h
    exact absurd (hb_MX_ge hM') (by decide)
  · cases h
    exact absurd (hb_MX_ge hM') (by decide)
  · cases h
    exact absurd (hb_MX_ge hM') (by decide)
  · cases h
    exact absurd (hb_MX_ge hM') (by decide)
  · cases h
    exact absurd (hb_MX_ge hM') (by decide)
  · cases h
    exact absurd (hb_MX_ge hM') (by decide)
  · cases h
    exact absurd (hb_MX_ge hM') (by decide)
  · cases h
    exact absurd (hb_MX_ge hM') (by decide)
  · cases h
    exact absurd (hb_MX_ge hM') (by decide)
  · cases h
    exact absurd (hb_MX_ge hM') (by decide)
  · cases h
    exact absurd (hb_MX_ge hM') (by decide)
  · cases h
    exact absurd (hb_MX_ge hM') (by decide)
  · cases h
    exact absurd (hb_MX_ge hM') (by decide)
  · cases h
    exact absurd (hb_MX_ge hM') (by decide)
  · cases h
    obtain rfl := Option.some.inj ((show hb_MX 6088 = some (mX23_eval, [(193, 203, 211, 0), (211, 213, 211, 0), (242, 250, 251, 790)]) from rfl).symm.trans hM')
    exact ⟨(hb_w13 138 (by decide +kernel)), (hb_w1 20 (by decide +kernel)), by decide +kernel, Or.inl ⟨rfl, (hb_w13 140 (by decide +kernel)), (hb_w0 182 (by decide +kernel)), _, rfl, rfl⟩⟩
  · cases h
    exact absurd (hb_MX_ge hM') (by decide)
  · cases h
    exact absurd (hb_MX_ge hM') (by decide)
  · cases h
    exact absurd (hb_MX_ge hM') (by decide)
  · cases h
    obtain rfl := Option.some.inj ((show hb_MX 6089 = some (mX23_called, [(97, 129, 184, 0), (142, 171, 184, 0), (184, 186, 184, 0)]) from rfl).symm.trans hM')
    exact ⟨(hb_w13 168 (by decide +kernel)), (hb_w1 20 (by decide +kernel)), by decide +kernel, Or.inl ⟨rfl, (hb_w13 170 (by decide +kernel)), (hb_w0 187 (by decide +kernel)), _, rfl, rfl⟩⟩
  · cases h
    exact absurd (hb_MX_ge hM') (by decide)
  · cases h
    exact absurd (hb_MX_ge hM') (by decide)
  · cases h
    exact absurd (hb_MX_ge hM') (by decide)
  · cases h
    exact absurd (hb_MX_ge hM') (by decide)
  · cases h
    obtain rfl := Option.some.inj ((show hb_MX 6090 = some (mX23_enter, [(144, 155, 168, 0), (168, 170, 168, 0)]) from rfl).symm.trans hM')
    exact ⟨(hb_w13 199 (by decide +kernel)), (hb_w1 20 (by decide +kernel)), by decide +kernel, Or.inl ⟨rfl, (hb_w13 201 (by decide +kernel)), (hb_w0 193 (by decide +kernel)), _, rfl, rfl⟩⟩
  · cases h
    exact absurd (hb_MX_ge hM') (by decide)
  · cases h
    exact absurd (hb_MX_ge hM') (by decide)
  · cases h
    exact absurd (hb_MX_ge hM') (by decide)
  · cases h
    exact absurd (hb_MX_ge hM') (by decide)
  · cases h
    exact absurd (hb_MX_ge hM') (by decide)
  · cases h
    exact absurd (hb_MX_ge hM') (by decide)
  · cases h
    exact absurd (hb_MX_ge hM') (by decide)
  · cases h
    exact absurd (hb_MX_ge hM') (by decide)
  · cases h
    exact absurd (hb_MX_ge hM') (by decide)
  · cases h
    exact absurd (hb_MX_ge hM') (by decide)
  · cases h
    exact absurd (hb_MX_ge hM') (by decide)
  · cases h
    exact absurd (hb_MX_ge hM') (by decide)
  · cases h
    exact absurd (hb_MX_ge hM') (by decide)
  · cases h
    exact absurd (hb_MX_ge hM') (by decide)
  · cases h
    exact absurd (hb_MX_ge hM') (by decide)
  · cases h
    exact absurd (hb_MX_ge hM') (by decide)
  · cases h
    exact absurd (hb_MX_ge hM') (by decide)
  · cases h
    exact absurd (hb_MX_ge hM') (by decide)
  · cases h
    exact absurd (hb_MX_ge hM') (by decide)
  · cases h
    exact absurd (hb_MX_ge hM') (by decide)
  · cases h
    exact absurd (hb_MX_ge hM') (by decide)
  · cases h
    exact absurd (hb_MX_ge hM') (by decide)
  · cases h
    exact absurd (hb_MX_ge hM') (by decide)
  · cases h
    exact absurd (hb_MX_ge hM') (by decide)
  · cases h
    exact absurd (hb_MX_ge hM') (by decide)
  · cases h
    exact absurd (hb_MX_ge hM') (by decide)
  · cases h
    exact absurd (hb_MX_ge hM') (by decide)
  · cases h
    exact absurd (hb_MX_ge hM') (by decide)
  · cases h
    exact absurd (hb_MX_ge hM') (by decide)
  · cases h
    exact absurd (hb_MX_ge hM') (by decide)
  · cases h
    exact absurd (hb_MX_ge hM') (by decide)
  · cases h
    exact absurd (hb_MX_ge hM') (by decide)
  · cases h
    exact absurd (hb_MX_ge hM') (by decide)
  · cases h
    obtain rfl := Option.some.inj ((show hb_MX 6091 = some (mX23_runAll, [(49, 66, 69, 790), (49, 66, 86, 888)]) from rfl).symm.trans hM')
    exact ⟨(hb_w13 130 (by decide +kernel)), (hb_w1 20 (by decide +kernel)), by decide +kernel, Or.inl ⟨rfl, (hb_w13 132 (by decide +kernel)), (hb_w0 181 (by decide +kernel)), _, rfl, rfl⟩⟩
  · cases h
theorem hb_Tl31 : ∀ ix sort y na ci : Nat, hb_T31 ix = some (sort, y, na, ci) → y % 256 < 200 := by
  intro ix sort y na ci h
  unfold hb_T31 at h
  split at h
  all_goals cases h
  all_goals decide
theorem hb_Tl33 : ∀ ix sort y na ci : Nat, hb_T33 ix = some (sort, y, na, ci) → y % 256 < 200 := by
  intro ix sort y na ci h
  unfold hb_T33 at h
  split at h
  all_goals cases h
  all_goals decide
theorem hb_Tl35 : ∀ ix sort y na ci : Nat, hb_T35 ix = some (sort, y, na, ci) → y % 256 < 200 := by
  intro ix sort y na ci h
  unfold hb_T35 at h
  split at h
  all_goals cases h
  all_goals decide
theorem hb_Tl37 : ∀ ix sort y na ci : Nat, hb_T37 ix = some (sort, y, na, ci) → y % 256 < 200 := by
  intro ix sort y na ci h
  unfold hb_T37 at h
  split at h
  all_goals cases h
  all_goals decide
theorem hb_Tl38 : ∀ ix sort y na ci : Nat, hb_T38 ix = some (sort, y, na, ci) → y % 256 < 200 := by
  intro ix sort y na ci h
  unfold hb_T38 at h
  split at h
  all_goals cases h
  all_goals decide
theorem hb_Tl39 : ∀ ix sort y na ci : Nat, hb_T39 ix = some (sort, y, na, ci) → y % 256 < 200 := by
  intro ix sort y na ci h
  unfold hb_T39 at h
  split at h
  all_goals cases h
  all_goals decide
theorem hb_Tl41 : ∀ ix sort y na ci : Nat, hb_T41 ix = some (sort, y, na, ci) → y % 256 < 200 := by
  intro ix sort y na ci h
  unfold hb_T41 at h
  split at h
  all_goals cases h
  all_goals decide
theorem hb_Tl42 : ∀ ix sort y na ci : Nat, hb_T42 ix = some (sort, y, na, ci) → y % 256 < 200 := by
  intro ix sort y na ci h
  unfold hb_T42 at h
  split at h
  all_goals cases h
  all_goals decide
theorem hb_Tl43 : ∀ ix sort y na ci : Nat, hb_T43 ix = some (sort, y, na, ci) → y % 256 < 200 := by
  intro ix sort y na ci h
  unfold hb_T43 at h
  split at h
  all_goals cases h
  all_goals decide
theorem hb_Tl44 : ∀ ix sort y na ci : Nat, hb_T44 ix = some (sort, y, na, ci) → y % 256 < 200 := by
  intro ix sort y na ci h
  unfold hb_T44 at h
  split at h
  all_goals cases h
  all_goals decide
theorem hb_Tl47 : ∀ ix sort y na ci : Nat, hb_T47 ix = some (sort, y, na, ci) → y % 256 < 200 := by
  intro ix sort y na ci h
  unfold hb_T47 at h
  split at h
  all_goals cases h
  all_goals decide
theorem hb_Tl50 : ∀ ix sort y na ci : Nat, hb_T50 ix = some (sort, y, na, ci) → y % 256 < 200 := by
  intro ix sort y na ci h
  unfold hb_T50 at h
  split at h
  all_goals cases h
  all_goals decide
theorem hb_Tl51 : ∀ ix sort y na ci : Nat, hb_T51 ix = some (sort, y, na, ci) → y % 256 < 200 := by
  intro ix sort y na ci h
  unfold hb_T51 at h
  split at h
  all_goals cases h
  all_goals decide
theorem hb_Tl60 : ∀ ix sort y na ci : Nat, hb_T60 ix = some (sort, y, na, ci) → y % 256 < 200 := by
  intro ix sort y na ci h
  unfold hb_T60 at h
  split at h
  all_goals cases h
  all_goals decide
theorem hb_Tl61 : ∀ ix sort y na ci : Nat, hb_T61 ix = some (sort, y, na, ci) → y % 256 < 200 := by
  intro ix sort y na ci h
  unfold hb_T61 at h
  split at h
  all_goals cases h
  all_goals decide
theorem hb_Tl62 : ∀ ix sort y na ci : Nat, hb_T62 ix = some (sort, y, na, ci) → y % 256 < 200 := by
  intro ix sort y na ci h
  unfold hb_T62 at h
  split at h
  all_goals cases h
  all_goals decide
theorem hb_Tl63 : ∀ ix sort y na ci : Nat, hb_T63 ix = some (sort, y, na, ci) → y % 256 < 200 := by
  intro ix sort y na ci h
  unfold hb_T63 at h
  split at h
  all_goals cases h
  all_goals decide
theorem hb_Tl64 : ∀ ix sort y na ci : Nat, hb_T64 ix = some (sort, y, na, ci) → y % 256 < 200 := by
  intro ix sort y na ci h
  unfold hb_T64 at h
  split at h
  all_goals cases h
  all_goals decide
theorem hb_Tl65 : ∀ ix sort y na ci : Nat, hb_T65 ix = some (sort, y, na, ci) → y % 256 < 200 := by
  intro ix sort y na ci h
  unfold hb_T65 at h
  split at h
  all_goals cases h
  all_goals decide
theorem hb_Tl66 : ∀ ix sort y na ci : Nat, hb_T66 ix = some (sort, y, na, ci) → y % 256 < 200 := by
  intro ix sort y na ci h
  unfold hb_T66 at h
  split at h
  all_goals cases h
  all_goals decide
theorem hb_Tl67 : ∀ ix sort y na ci : Nat, hb_T67 ix = some (sort, y, na, ci) → y % 256 < 200 := by
  intro ix sort y na ci h
  unfold hb_T67 at h
  split at h
  all_goals cases h
  all_goals decide
theorem hb_Tl68 : ∀ ix sort y na ci : Nat, hb_T68 ix = some (sort, y, na, ci) → y % 256 < 200 := by
  intro ix sort y na ci h
  unfold hb_T68 at h
  split at h
  all_goals cases h
  all_goals decide
theorem hb_Tx52 : ∀ ix sort y na ci : Nat, hb_T52 ix = some (sort, y, na, ci) → ∀ M' : ab_MX, hb_MX y = some M' → Cond.methodLink RL ix (ab_my M'.1) ∈ hb_TB ∧ Cond.initialized (ab_my M'.1).cls ∈ hb_TB ∧ ((ab_my M'.1).cls ≠ "java/lang/invoke/MethodHandle" ∧ (ab_my M'.1).cls ≠ "java/lang/invoke/VarHandle" ∧ (parseMethodDescriptor (ab_my M'.1).desc).map (fun d => d.parameters.length) = some na) ∧
    (sort = 0 ∧ Cond.instanceMethod (ab_my M'.1) ∈ hb_TB ∧ Cond.selects (ab_my M'.1).cls (ab_my M'.1) (ab_my M'.1) ∈ hb_TB ∧ (∃ q : vw_C, vwCl[ci]? = some q ∧ q.1 = (ab_my M'.1).cls) ∨ sort = 1 ∧ Cond.static (ab_my M'.1) ∈ hb_TB) := by
  intro ix sort y na ci h M' hM'
  unfold hb_T52 at h
  split at h
  · cases h
    exact absurd (hb_MX_ge hM') (by decide)
  · cases h
    exact absurd (hb_MX_ge hM') (by decide)
  · cases h
    exact absurd (hb_MX_ge hM') (by decide)
  · cases h
    exact absurd (hb_MX_ge hM') (by decide)
  · cases h
    exact absurd (hb_MX_ge hM') (by decide)
  · cases h
    exact absurd (hb_MX_ge hM') (by decide)
  · cases h
    exact absurd (hb_MX_ge hM') (by decide)
  · cases h
    exact absurd (hb_MX_ge hM') (by decide)
  · cases h
    exact absurd (hb_MX_ge hM') (by decide)
  · cases h
    exact absurd (hb_MX_ge hM') (by decide)
  · cases h
    exact absurd (hb_MX_ge hM') (by decide)
  · cases h
    exact absurd (hb_MX_ge hM') (by decide)
  · cases h
    exact absurd (hb_MX_ge hM') (by decide)
  · cases h
    exact absurd (hb_MX_ge hM') (by decide)
  · cases h
    exact absurd (hb_MX_ge hM') (by decide)
  · cases h
    exact absurd (hb_MX_ge hM') (by decide)
  · cases h
    obtain rfl := Option.some.inj ((show hb_MX 13512 = some (mL_feed, [(0, 16, 19, 13)]) from rfl).symm.trans hM')
    exact ⟨(hb_w6 8 (by decide +kernel)), (hb_w1 0 (by decide +kernel)), by decide +kernel, Or.inr ⟨rfl, (hb_w6 9 (by decide +kernel))⟩⟩
  · cases h
    exact absurd (hb_MX_ge hM') (by decide)
  · cases h
    exact absurd (hb_MX_ge hM') (by decide)
  · cases h
    obtain rfl := Option.some.inj ((show hb_MX 13513 = some (mL_end, [(0, 9, 12, 19)]) from rfl).symm.trans hM')
    exact ⟨(hb_w6 96 (by decide +kernel)), (hb_w1 0 (by decide +kernel)), by decide +kernel, Or.inr ⟨rfl, (hb_w6 97 (by decide +kernel))⟩⟩
  · cases h
    exact absurd (hb_MX_ge hM') (by decide)
  · cases h
    exact absurd (hb_MX_ge hM') (by decide)
  · cases h
    obtain rfl := Option.some.inj ((show hb_MX 6092 = some (mX23_tell, [(35, 62, 65, 223)]) from rfl).symm.trans hM')
    exact ⟨(hb_w11 26 (by decide +kernel)), (hb_w1 20 (by decide +kernel)), by decide +kernel, Or.inl ⟨rfl, (hb_w11 27 (by decide +kernel)), (hb_w11 28 (by decide +kernel)), _, rfl, rfl⟩⟩
  · cases h
    exact absurd (hb_MX_ge hM') (by decide)
  · cases h
    obtain rfl := Option.some.inj ((show hb_MX 6093 = some (mX23_program, [(43, 85, 88, 223)]) from rfl).symm.trans hM')
    exact ⟨(hb_w12 191 (by decide +kernel)), (hb_w1 20 (by decide +kernel)), by decide +kernel, Or.inl ⟨rfl, (hb_w12 192 (by decide +kernel)), (hb_w12 193 (by decide +kernel)), _, rfl, rfl⟩⟩
  · cases h
    exact absurd (hb_MX_ge hM') (by decide)
  · cases h
    exact absurd (hb_MX_ge hM') (by decide)
  · cases h
    obtain rfl := Option.some.inj ((show hb_MX 13514 = some (mL_drop, [(0, 16, 19, 13)]) from rfl).symm.trans hM')
    exact ⟨(hb_w6 119 (by decide +kernel)), (hb_w1 0 (by decide +kernel)), by decide +kernel, Or.inr ⟨rfl, (hb_w6 120 (by decide +kernel))⟩⟩
  · cases h
    exact absurd (hb_MX_ge hM') (by decide)
  · cases h
    obtain rfl := Option.some.inj ((show hb_MX 13515 = some (mL_set, [(0, 10, 13, 19)]) from rfl).symm.trans hM')
    exact ⟨(hb_w6 128 (by decide +kernel)), (hb_w1 0 (by decide +kernel)), by decide +kernel, Or.inr ⟨rfl, (hb_w6 129 (by decide +kernel))⟩⟩
  · cases h
    exact absurd (hb_MX_ge hM') (by decide)
  · cases h
    obtain rfl := Option.some.inj ((show hb_MX 13516 = some (mL_count, [(0, 9, 12, 19)]) from rfl).symm.trans hM')
    exact ⟨(hb_w6 136 (by decide +kernel)), (hb_w1 0 (by decide +kernel)), by decide +kernel, Or.inr ⟨rfl, (hb_w6 137 (by decide +kernel))⟩⟩
  · cases h
    exact absurd (hb_MX_ge hM') (by decide)
  · cases h
    obtain rfl := Option.some.inj ((show hb_MX 13517 = some (mL_below, [(0, 17, 20, 13)]) from rfl).symm.trans hM')
    exact ⟨(hb_w6 143 (by decide +kernel)), (hb_w1 0 (by decide +kernel)), by decide +kernel, Or.inr ⟨rfl, (hb_w6 144 (by decide +kernel))⟩⟩
  · cases h
    exact absurd (hb_MX_ge hM') (by decide)
  · cases h
    obtain rfl := Option.some.inj ((show hb_MX 13518 = some (mL_row, [(0, 12, 15, 13), (0, 12, 19, 19)]) from rfl).symm.trans hM')
    exact ⟨(hb_w6 155 (by decide +kernel)), (hb_w1 0 (by decide +kernel)), by decide +kernel, Or.inr ⟨rfl, (hb_w6 156 (by decide +kernel))⟩⟩
  · cases h
    exact absurd (hb_MX_ge hM') (by decide)
  · cases h
    obtain rfl := Option.some.inj ((show hb_MX 13519 = some (mL_nearer, [(0, 16, 19, 13), (0, 16, 23, 19)]) from rfl).symm.trans hM')
    exact ⟨(hb_w6 163 (by decide +kernel)), (hb_w1 0 (by decide +kernel)), by decide +kernel, Or.inr ⟨rfl, (hb_w6 164 (by decide +kernel))⟩⟩
  · cases h
    exact absurd (hb_MX_ge hM') (by decide)
  · cases h
    obtain rfl := Option.some.inj ((show hb_MX 13520 = some (mL_call, [(0, 10, 13, 13), (0, 10, 17, 19)]) from rfl).symm.trans hM')
    exact ⟨(hb_w7 0 (by decide +kernel)), (hb_w1 0 (by decide +kernel)), by decide +kernel, Or.inr ⟨rfl, (hb_w7 1 (by decide +kernel))⟩⟩
  · cases h
    exact absurd (hb_MX_ge hM') (by decide)
  · cases h
    obtain rfl := Option.some.inj ((show hb_MX 13521 = some (mL_run, [(0, 8, 11, 50)]) from rfl).symm.trans hM')
    exact ⟨(hb_w7 117 (by decide +kernel)), (hb_w1 0 (by decide +kernel)), by decide +kernel, Or.inr ⟨rfl, (hb_w7 118 (by decide +kernel))⟩⟩
  · cases h
    exact absurd (hb_MX_ge hM') (by decide)
  · cases h
    obtain rfl := Option.some.inj ((show hb_MX 13522 = some (mL_told, [(0, 9, 12, 19)]) from rfl).symm.trans hM')
    exact ⟨(hb_w8 67 (by decide +kernel)), (hb_w1 0 (by decide +kernel)), by decide +kernel, Or.inr ⟨rfl, (hb_w8 68 (by decide +kernel))⟩⟩
  · cases h
    exact absurd (hb_MX_ge hM') (by decide)
  · cases h
    obtain rfl := Option.some.inj ((show hb_MX 13523 = some (mL_shown, [(0, 9, 12, 13)]) from rfl).symm.trans hM')
    exact ⟨(hb_w8 75 (by decide +kernel)), (hb_w1 0 (by decide +kernel)), by decide +kernel, Or.inr ⟨rfl, (hb_w8 76 (by decide +kernel))⟩⟩
  · cases h
    exact absurd (hb_MX_ge hM') (by decide)
  · cases h
    obtain rfl := Option.some.inj ((show hb_MX 13524 = some (mL_ran, [(0, 8, 11, 50)]) from rfl).symm.trans hM')
    exact ⟨(hb_w8 82 (by decide +kernel)), (hb_w1 0 (by decide +kernel)), by decide +kernel, Or.inr ⟨rfl, (hb_w8 83 (by decide +kernel))⟩⟩
  · cases h
    exact absurd (hb_MX_ge hM') (by decide)
  · cases h
    obtain rfl := Option.some.inj ((show hb_MX 13525 = some (mL_word, [(0, 8, 11, 13)]) from rfl).symm.trans hM')
    exact ⟨(hb_w8 90 (by decide +kernel)), (hb_w1 0 (by decide +kernel)), by decide +kernel, Or.inr ⟨rfl, (hb_w8 91 (by decide +kernel))⟩⟩
  · cases h
    exact absurd (hb_MX_ge hM') (by decide)
  · cases h
theorem hb_X_X23_eval (O : Nat → Option FieldType) (X : ab_X) : (Cond.codeWith (ab_my mX23_eval) (ab_mc mX23_eval) (ab_mL mX23_eval) (ab_mr mX23_eval) [(193, 203, 211, 0), (211, 213, 211, 0), (242, 250, 251, 790)] ∈ hb_TB ∧ plainName (ab_my mX23_eval).cls = true ∧ ab_mL mX23_eval ≤ 21 ∧ ab_own (hb_Gx O X) (ab_mo mX23_eval) (ab_my mX23_eval).cls) ∧ ab_mi mX23_eval = false :=
  ⟨⟨(hb_w13 141 ⟨rfl, rfl⟩), by decide +kernel, by decide, Or.inl ⟨5888, mX23_isName, rfl, rfl, rfl⟩⟩, rfl⟩
theorem hb_X_X23_called (O : Nat → Option FieldType) (X : ab_X) : (Cond.codeWith (ab_my mX23_called) (ab_mc mX23_called) (ab_mL mX23_called) (ab_mr mX23_called) [(97, 129, 184, 0), (142, 171, 184, 0), (184, 186, 184, 0)] ∈ hb_TB ∧ plainName (ab_my mX23_called).cls = true ∧ ab_mL mX23_called ≤ 21 ∧ ab_own (hb_Gx O X) (ab_mo mX23_called) (ab_my mX23_called).cls) ∧ ab_mi mX23_called = false :=
  ⟨⟨(hb_w13 171 ⟨rfl, rfl⟩), by decide +kernel, by decide, Or.inl ⟨5888, mX23_isName, rfl, rfl, rfl⟩⟩, rfl⟩
theorem hb_X_X23_enter (O : Nat → Option FieldType) (X : ab_X) : (Cond.codeWith (ab_my mX23_enter) (ab_mc mX23_enter) (ab_mL mX23_enter) (ab_mr mX23_enter) [(144, 155, 168, 0), (168, 170, 168, 0)] ∈ hb_TB ∧ plainName (ab_my mX23_enter).cls = true ∧ ab_mL mX23_enter ≤ 21 ∧ ab_own (hb_Gx O X) (ab_mo mX23_enter) (ab_my mX23_enter).cls) ∧ ab_mi mX23_enter = false :=
  ⟨⟨(hb_w13 202 ⟨rfl, rfl⟩), by decide +kernel, by decide, Or.inl ⟨5888, mX23_isName, rfl, rfl, rfl⟩⟩, rfl⟩
theorem hb_X_X23_runAll (O : Nat → Option FieldType) (X : ab_X) : (Cond.codeWith (ab_my mX23_runAll) (ab_mc mX23_runAll) (ab_mL mX23_runAll) (ab_mr mX23_runAll) [(49, 66, 69, 790), (49, 66, 86, 888)] ∈ hb_TB ∧ plainName (ab_my mX23_runAll).cls = true ∧ ab_mL mX23_runAll ≤ 21 ∧ ab_own (hb_Gx O X) (ab_mo mX23_runAll) (ab_my mX23_runAll).cls) ∧ ab_mi mX23_runAll = false :=
  ⟨⟨(hb_w13 133 ⟨rfl, rfl⟩), by decide +kernel, by decide, Or.inl ⟨5888, mX23_isName, rfl, rfl, rfl⟩⟩, rfl⟩
theorem hb_X_X23_tell (O : Nat → Option FieldType) (X : ab_X) : (Cond.codeWith (ab_my mX23_tell) (ab_mc mX23_tell) (ab_mL mX23_tell) (ab_mr mX23_tell) [(35, 62, 65, 223)] ∈ hb_TB ∧ plainName (ab_my mX23_tell).cls = true ∧ ab_mL mX23_tell ≤ 21 ∧ ab_own (hb_Gx O X) (ab_mo mX23_tell) (ab_my mX23_tell).cls) ∧ ab_mi mX23_tell = false :=
  ⟨⟨(hb_w11 29 ⟨rfl, rfl⟩), by decide +kernel, by decide, Or.inl ⟨5888, mX23_isName, rfl, rfl, rfl⟩⟩, rfl⟩
theorem hb_X_X23_program (O : Nat → Option FieldType) (X : ab_X) : (Cond.codeWith (ab_my mX23_program) (ab_mc mX23_program) (ab_mL mX23_program) (ab_mr mX23_program) [(43, 85, 88, 223)] ∈ hb_TB ∧ plainName (ab_my mX23_program).cls = true ∧ ab_mL mX23_program ≤ 21 ∧ ab_own (hb_Gx O X) (ab_mo mX23_program) (ab_my mX23_program).cls) ∧ ab_mi mX23_program = false :=
  ⟨⟨(hb_w12 194 ⟨rfl, rfl⟩), by decide +kernel, by decide, Or.inl ⟨5888, mX23_isName, rfl, rfl, rfl⟩⟩, rfl⟩
theorem hb_X_L_feed (O : Nat → Option FieldType) (X : ab_X) : (Cond.codeWith (ab_my mL_feed) (ab_mc mL_feed) (ab_mL mL_feed) (ab_mr mL_feed) [(0, 16, 19, 13)] ∈ hb_TB ∧ plainName (ab_my mL_feed).cls = true ∧ ab_mL mL_feed ≤ 21 ∧ ab_own (hb_Gx O X) (ab_mo mL_feed) (ab_my mL_feed).cls) ∧ ab_mi mL_feed = false :=
  ⟨⟨(hb_w6 10 ⟨rfl, rfl⟩), by decide +kernel, by decide, Or.inr ⟨rfl, rfl⟩⟩, rfl⟩
theorem hb_X_L_end (O : Nat → Option FieldType) (X : ab_X) : (Cond.codeWith (ab_my mL_end) (ab_mc mL_end) (ab_mL mL_end) (ab_mr mL_end) [(0, 9, 12, 19)] ∈ hb_TB ∧ plainName (ab_my mL_end).cls = true ∧ ab_mL mL_end ≤ 21 ∧ ab_own (hb_Gx O X) (ab_mo mL_end) (ab_my mL_end).cls) ∧ ab_mi mL_end = false :=
  ⟨⟨(hb_w6 98 ⟨rfl, rfl⟩), by decide +kernel, by decide, Or.inr ⟨rfl, rfl⟩⟩, rfl⟩
theorem hb_X_L_drop (O : Nat → Option FieldType) (X : ab_X) : (Cond.codeWith (ab_my mL_drop) (ab_mc mL_drop) (ab_mL mL_drop) (ab_mr mL_drop) [(0, 16, 19, 13)] ∈ hb_TB ∧ plainName (ab_my mL_drop).cls = true ∧ ab_mL mL_drop ≤ 21 ∧ ab_own (hb_Gx O X) (ab_mo mL_drop) (ab_my mL_drop).cls) ∧ ab_mi mL_drop = false :=
  ⟨⟨(hb_w6 121 ⟨rfl, rfl⟩), by decide +kernel, by decide, Or.inr ⟨rfl, rfl⟩⟩, rfl⟩
theorem hb_X_L_set (O : Nat → Option FieldType) (X : ab_X) : (Cond.codeWith (ab_my mL_set) (ab_mc mL_set) (ab_mL mL_set) (ab_mr mL_set) [(0, 10, 13, 19)] ∈ hb_TB ∧ plainName (ab_my mL_set).cls = true ∧ ab_mL mL_set ≤ 21 ∧ ab_own (hb_Gx O X) (ab_mo mL_set) (ab_my mL_set).cls) ∧ ab_mi mL_set = false :=
  ⟨⟨(hb_w6 130 ⟨rfl, rfl⟩), by decide +kernel, by decide, Or.inr ⟨rfl, rfl⟩⟩, rfl⟩
theorem hb_X_L_count (O : Nat → Option FieldType) (X : ab_X) : (Cond.codeWith (ab_my mL_count) (ab_mc mL_count) (ab_mL mL_count) (ab_mr mL_count) [(0, 9, 12, 19)] ∈ hb_TB ∧ plainName (ab_my mL_count).cls = true ∧ ab_mL mL_count ≤ 21 ∧ ab_own (hb_Gx O X) (ab_mo mL_count) (ab_my mL_count).cls) ∧ ab_mi mL_count = false :=
  ⟨⟨(hb_w6 138 ⟨rfl, rfl⟩), by decide +kernel, by decide, Or.inr ⟨rfl, rfl⟩⟩, rfl⟩
theorem hb_X_L_below (O : Nat → Option FieldType) (X : ab_X) : (Cond.codeWith (ab_my mL_below) (ab_mc mL_below) (ab_mL mL_below) (ab_mr mL_below) [(0, 17, 20, 13)] ∈ hb_TB ∧ plainName (ab_my mL_below).cls = true ∧ ab_mL mL_below ≤ 21 ∧ ab_own (hb_Gx O X) (ab_mo mL_below) (ab_my mL_below).cls) ∧ ab_mi mL_below = false :=
  ⟨⟨(hb_w6 145 ⟨rfl, rfl⟩), by decide +kernel, by decide, Or.inr ⟨rfl, rfl⟩⟩, rfl⟩
theorem hb_X_L_row (O : Nat → Option FieldType) (X : ab_X) : (Cond.codeWith (ab_my mL_row) (ab_mc mL_row) (ab_mL mL_row) (ab_mr mL_row) [(0, 12, 15, 13), (0, 12, 19, 19)] ∈ hb_TB ∧ plainName (ab_my mL_row).cls = true ∧ ab_mL mL_row ≤ 21 ∧ ab_own (hb_Gx O X) (ab_mo mL_row) (ab_my mL_row).cls) ∧ ab_mi mL_row = false :=
  ⟨⟨(hb_w6 157 ⟨rfl, rfl⟩), by decide +kernel, by decide, Or.inr ⟨rfl, rfl⟩⟩, rfl⟩
theorem hb_X_L_nearer (O : Nat → Option FieldType) (X : ab_X) : (Cond.codeWith (ab_my mL_nearer) (ab_mc mL_nearer) (ab_mL mL_nearer) (ab_mr mL_nearer) [(0, 16, 19, 13), (0, 16, 23, 19)] ∈ hb_TB ∧ plainName (ab_my mL_nearer).cls = true ∧ ab_mL mL_nearer ≤ 21 ∧ ab_own (hb_Gx O X) (ab_mo mL_nearer) (ab_my mL_nearer).cls) ∧ ab_mi mL_nearer = false :=
  ⟨⟨(hb_w6 165 ⟨rfl, rfl⟩), by decide +kernel, by decide, Or.inr ⟨rfl, rfl⟩⟩, rfl⟩
theorem hb_X_L_call (O : Nat → Option FieldType) (X : ab_X) : (Cond.codeWith (ab_my mL_call) (ab_mc mL_call) (ab_mL mL_call) (ab_mr mL_call) [(0, 10, 13, 13), (0, 10, 17, 19)] ∈ hb_TB ∧ plainName (ab_my mL_call).cls = true ∧ ab_mL mL_call ≤ 21 ∧ ab_own (hb_Gx O X) (ab_mo mL_call) (ab_my mL_call).cls) ∧ ab_mi mL_call = false :=
  ⟨⟨(hb_w7 2 ⟨rfl, rfl⟩), by decide +kernel, by decide, Or.inr ⟨rfl, rfl⟩⟩, rfl⟩
theorem hb_X_L_run (O : Nat → Option FieldType) (X : ab_X) : (Cond.codeWith (ab_my mL_run) (ab_mc mL_run) (ab_mL mL_run) (ab_mr mL_run) [(0, 8, 11, 50)] ∈ hb_TB ∧ plainName (ab_my mL_run).cls = true ∧ ab_mL mL_run ≤ 21 ∧ ab_own (hb_Gx O X) (ab_mo mL_run) (ab_my mL_run).cls) ∧ ab_mi mL_run = false :=
  ⟨⟨(hb_w7 119 ⟨rfl, rfl⟩), by decide +kernel, by decide, Or.inr ⟨rfl, rfl⟩⟩, rfl⟩
theorem hb_X_L_told (O : Nat → Option FieldType) (X : ab_X) : (Cond.codeWith (ab_my mL_told) (ab_mc mL_told) (ab_mL mL_told) (ab_mr mL_told) [(0, 9, 12, 19)] ∈ hb_TB ∧ plainName (ab_my mL_told).cls = true ∧ ab_mL mL_told ≤ 21 ∧ ab_own (hb_Gx O X) (ab_mo mL_told) (ab_my mL_told).cls) ∧ ab_mi mL_told = false :=
  ⟨⟨(hb_w8 69 ⟨rfl, rfl⟩), by decide +kernel, by decide, Or.inr ⟨rfl, rfl⟩⟩, rfl⟩
theorem hb_X_L_shown (O : Nat → Option FieldType) (X : ab_X) : (Cond.codeWith (ab_my mL_shown) (ab_mc mL_shown) (ab_mL mL_shown) (ab_mr mL_shown) [(0, 9, 12, 13)] ∈ hb_TB ∧ plainName (ab_my mL_shown).cls = true ∧ ab_mL mL_shown ≤ 21 ∧ ab_own (hb_Gx O X) (ab_mo mL_shown) (ab_my mL_shown).cls) ∧ ab_mi mL_shown = false :=
  ⟨⟨(hb_w8 77 ⟨rfl, rfl⟩), by decide +kernel, by decide, Or.inr ⟨rfl, rfl⟩⟩, rfl⟩
theorem hb_X_L_ran (O : Nat → Option FieldType) (X : ab_X) : (Cond.codeWith (ab_my mL_ran) (ab_mc mL_ran) (ab_mL mL_ran) (ab_mr mL_ran) [(0, 8, 11, 50)] ∈ hb_TB ∧ plainName (ab_my mL_ran).cls = true ∧ ab_mL mL_ran ≤ 21 ∧ ab_own (hb_Gx O X) (ab_mo mL_ran) (ab_my mL_ran).cls) ∧ ab_mi mL_ran = false :=
  ⟨⟨(hb_w8 84 ⟨rfl, rfl⟩), by decide +kernel, by decide, Or.inr ⟨rfl, rfl⟩⟩, rfl⟩
theorem hb_X_L_word (O : Nat → Option FieldType) (X : ab_X) : (Cond.codeWith (ab_my mL_word) (ab_mc mL_word) (ab_mL mL_word) (ab_mr mL_word) [(0, 8, 11, 13)] ∈ hb_TB ∧ plainName (ab_my mL_word).cls = true ∧ ab_mL mL_word ≤ 21 ∧ ab_own (hb_Gx O X) (ab_mo mL_word) (ab_my mL_word).cls) ∧ ab_mi mL_word = false :=
  ⟨⟨(hb_w8 92 ⟨rfl, rfl⟩), by decide +kernel, by decide, Or.inr ⟨rfl, rfl⟩⟩, rfl⟩
/-- THE TABLES OF THROWS ARE RIGHT -/
theorem hb_OKt (O : Nat → Option FieldType) (X : ab_X) : ab_OKt (hb_Gx O X) hb_GT hb_TB := by
  refine ⟨fun y M h => ?_, fun q own ho ix sort y na ci h M' hM' => ?_, fun q own ho c nm h => ?_⟩
  · have h : hb_MX y = some M := h
    unfold hb_MX at h
    split at h
    · cases h
      exact ⟨(hb_X_X23_eval O X).1, rfl, ⟨hb_F23_ok false, hb_C23_ok, hb_I23_ok, hb_L23_ok⟩, okc_23 O X _ rfl rfl⟩
    · cases h
      exact ⟨(hb_X_X23_called O X).1, rfl, ⟨hb_F23_ok false, hb_C23_ok, hb_I23_ok, hb_L23_ok⟩, okc_23 O X _ rfl rfl⟩
    · cases h
      exact ⟨(hb_X_X23_enter O X).1, rfl, ⟨hb_F23_ok false, hb_C23_ok, hb_I23_ok, hb_L23_ok⟩, okc_23 O X _ rfl rfl⟩
    · cases h
      exact ⟨(hb_X_X23_runAll O X).1, rfl, ⟨hb_F23_ok false, hb_C23_ok, hb_I23_ok, hb_L23_ok⟩, okc_23 O X _ rfl rfl⟩
    · cases h
      exact ⟨(hb_X_X23_tell O X).1, rfl, ⟨hb_F23_ok false, hb_C23_ok, hb_I23_ok, hb_L23_ok⟩, okc_23 O X _ rfl rfl⟩
    · cases h
      exact ⟨(hb_X_X23_program O X).1, rfl, ⟨hb_F23_ok false, hb_C23_ok, hb_I23_ok, hb_L23_ok⟩, okc_23 O X _ rfl rfl⟩
    · cases h
      exact ⟨(hb_X_L_feed O X).1, rfl, ⟨hb_F52_ok false, hb_C52_ok, hb_I52_ok, hb_L52_ok⟩, okc_52 O X _ rfl rfl⟩
    · cases h
      exact ⟨(hb_X_L_end O X).1, rfl, ⟨hb_F52_ok false, hb_C52_ok, hb_I52_ok, hb_L52_ok⟩, okc_52 O X _ rfl rfl⟩
    · cases h
      exact ⟨(hb_X_L_drop O X).1, rfl, ⟨hb_F52_ok false, hb_C52_ok, hb_I52_ok, hb_L52_ok⟩, okc_52 O X _ rfl rfl⟩
    · cases h
      exact ⟨(hb_X_L_set O X).1, rfl, ⟨hb_F52_ok false, hb_C52_ok, hb_I52_ok, hb_L52_ok⟩, okc_52 O X _ rfl rfl⟩
    · cases h
      exact ⟨(hb_X_L_count O X).1, rfl, ⟨hb_F52_ok false, hb_C52_ok, hb_I52_ok, hb_L52_ok⟩, okc_52 O X _ rfl rfl⟩
    · cases h
      exact ⟨(hb_X_L_below O X).1, rfl, ⟨hb_F52_ok false, hb_C52_ok, hb_I52_ok, hb_L52_ok⟩, okc_52 O X _ rfl rfl⟩
    · cases h
      exact ⟨(hb_X_L_row O X).1, rfl, ⟨hb_F52_ok false, hb_C52_ok, hb_I52_ok, hb_L52_ok⟩, okc_52 O X _ rfl rfl⟩
    · cases h
      exact ⟨(hb_X_L_nearer O X).1, rfl, ⟨hb_F52_ok false, hb_C52_ok, hb_I52_ok, hb_L52_ok⟩, okc_52 O X _ rfl rfl⟩
    · cases h
      exact ⟨(hb_X_L_call O X).1, rfl, ⟨hb_F52_ok false, hb_C52_ok, hb_I52_ok, hb_L52_ok⟩, okc_52 O X _ rfl rfl⟩
    · cases h
      exact ⟨(hb_X_L_run O X).1, rfl, ⟨hb_F52_ok false, hb_C52_ok, hb_I52_ok, hb_L52_ok⟩, okc_52 O X _ rfl rfl⟩
    · cases h
      exact ⟨(hb_X_L_told O X).1, rfl, ⟨hb_F52_ok false, hb_C52_ok, hb_I52_ok, hb_L52_ok⟩, okc_52 O X _ rfl rfl⟩
    · cases h
      exact ⟨(hb_X_L_shown O X).1, rfl, ⟨hb_F52_ok false, hb_C52_ok, hb_I52_ok, hb_L52_ok⟩, okc_52 O X _ rfl rfl⟩
    · cases h
      exact ⟨(hb_X_L_ran O X).1, rfl, ⟨hb_F52_ok false, hb_C52_ok, hb_I52_ok, hb_L52_ok⟩, okc_52 O X _ rfl rfl⟩
    · cases h
      exact ⟨(hb_X_L_word O X).1, rfl, ⟨hb_F52_ok false, hb_C52_ok, hb_I52_ok, hb_L52_ok⟩, okc_52 O X _ rfl rfl⟩
    · cases h
  · have e := hb_own ho
    subst e
    have h : hb_T q ix = some (sort, y, na, ci) := h
    have hM' : hb_MX y = some M' := hM'
    unfold hb_T at h
    split at h
    · exact absurd (hb_MX_ge hM') (Nat.not_le.mpr (hb_Tl0 ix sort y na ci h))
    · exact absurd (hb_MX_ge hM') (Nat.not_le.mpr (hb_Tl1 ix sort y na ci h))
    · exact absurd (hb_MX_ge hM') (Nat.not_le.mpr (hb_Tl2 ix sort y na ci h))
    · exact absurd (hb_MX_ge hM') (Nat.not_le.mpr (hb_Tl3 ix sort y na ci h))
    · exact absurd (hb_MX_ge hM') (Nat.not_le.mpr (hb_Tl4 ix sort y na ci h))
    · exact absurd (hb_MX_ge hM') (Nat.not_le.mpr (hb_Tl5 ix sort y na ci h))
    · exact absurd (hb_MX_ge hM') (Nat.not_le.mpr (hb_Tl6 ix sort y na ci h))
    · exact absurd (hb_MX_ge hM') (Nat.not_le.mpr (hb_Tl7 ix sort y na ci h))
    · exact absurd (hb_MX_ge hM') (Nat.not_le.mpr (hb_Tl8 ix sort y na ci h))
    · exact absurd (hb_MX_ge hM') (Nat.not_le.mpr (hb_Tl9 ix sort y na ci h))
    · exact absurd (hb_MX_ge hM') (Nat.not_le.mpr (hb_Tl10 ix sort y na ci h))
    · exact absurd (hb_MX_ge hM') (Nat.not_le.mpr (hb_Tl11 ix sort y na ci h))
    · exact absurd (hb_MX_ge hM') (Nat.not_le.mpr (hb_Tl12 ix sort y na ci h))
    · exact absurd (hb_MX_ge hM') (Nat.not_le.mpr (hb_Tl13 ix sort y na ci h))
    · exact absurd (hb_MX_ge hM') (Nat.not_le.mpr (hb_Tl14 ix sort y na ci h))
    · exact absurd (hb_MX_ge hM') (Nat.not_le.mpr (hb_Tl15 ix sort y na ci h))
    · exact absurd (hb_MX_ge hM') (Nat.not_le.mpr (hb_Tl16 ix sort y na ci h))
    · exact absurd (hb_MX_ge hM') (Nat.not_le.mpr (hb_Tl17 ix sort y na ci h))
    · exact absurd (hb_MX_ge hM') (Nat.not_le.mpr (hb_Tl18 ix sort y na ci h))
    · exact absurd (hb_MX_ge hM') (Nat.not_le.mpr (hb_Tl19 ix sort y na ci h))
    · exact absurd (hb_MX_ge hM') (Nat.not_le.mpr (hb_Tl20 ix sort y na ci h))
    · exact absurd (hb_MX_ge hM') (Nat.not_le.mpr (hb_Tl21 ix sort y na ci h))
    · exact absurd (hb_MX_ge hM') (Nat.not_le.mpr (hb_Tl22 ix sort y na ci h))
    · exact hb_Tx23 ix sort y na ci h M' hM'
    · exact absurd (hb_MX_ge hM') (Nat.not_le.mpr (hb_Tl31 ix sort y na ci h))
    · exact absurd (hb_MX_ge hM') (Nat.not_le.mpr (hb_Tl33 ix sort y na ci h))
    · exact absurd (hb_MX_ge hM') (Nat.not_le.mpr (hb_Tl35 ix sort y na ci h))
    · exact absurd (hb_MX_ge hM') (Nat.not_le.mpr (hb_Tl37 ix sort y na ci h))
    · exact absurd (hb_MX_ge hM') (Nat.not_le.mpr (hb_Tl38 ix sort y na ci h))
    · exact absurd (hb_MX_ge hM') (Nat.not_le.mpr (hb_Tl39 ix sort y na ci h))
    · exact absurd (hb_MX_ge hM') (Nat.not_le.mpr (hb_Tl41 ix sort y na ci h))
    · exact absurd (hb_MX_ge hM') (Nat.not_le.mpr (hb_Tl42 ix sort y na ci h))
    · exact absurd (hb_MX_ge hM') (Nat.not_le.mpr (hb_Tl43 ix sort y na ci h))
    · exact absurd (hb_MX_ge hM') (Nat.not_le.mpr (hb_Tl44 ix sort y na ci h))
    · exact absurd (hb_MX_ge hM') (Nat.not_le.mpr (hb_Tl47 ix sort y na ci h))
    · exact absurd (hb_MX_ge hM') (Nat.not_le.mpr (hb_Tl50 ix sort y na ci h))
    · exact absurd (hb_MX_ge hM') (Nat.not_le.mpr (hb_Tl51 ix sort y na ci h))
    · exact absurd (hb_MX_ge hM') (Nat.not_le.mpr (hb_Tl60 ix sort y na ci h))
    · exact absurd (hb_MX_ge hM') (Nat.not_le.mpr (hb_Tl61 ix sort y na ci h))
    · exact absurd (hb_MX_ge hM') (Nat.not_le.mpr (hb_Tl62 ix sort y na ci h))
    · exact absurd (hb_MX_ge hM') (Nat.not_le.mpr (hb_Tl63 ix sort y na ci h))
    · exact absurd (hb_MX_ge hM') (Nat.not_le.mpr (hb_Tl64 ix sort y na ci h))
    · exact absurd (hb_MX_ge hM') (Nat.not_le.mpr (hb_Tl65 ix sort y na ci h))
    · exact absurd (hb_MX_ge hM') (Nat.not_le.mpr (hb_Tl66 ix sort y na ci h))
    · exact absurd (hb_MX_ge hM') (Nat.not_le.mpr (hb_Tl67 ix sort y na ci h))
    · exact absurd (hb_MX_ge hM') (Nat.not_le.mpr (hb_Tl68 ix sort y na ci h))
    · exact hb_Tx52 ix sort y na ci h M' hM'
    · cases h
  · have e := hb_own ho
    subst e
    have h : hb_ct q c = some nm := h
    unfold hb_ct at h
    split at h
    · cases h
      exact (hb_w6 11 (by decide +kernel))
    · cases h
      exact (hb_w6 99 (by decide +kernel))
    · cases h
      exact (hb_w7 120 (by decide +kernel))
    · cases h
      exact (hb_w11 30 (by decide +kernel))
    · cases h
      exact (hb_w9 34 (by decide +kernel))
    · cases h
      exact (hb_w9 57 (by decide +kernel))
    · cases h

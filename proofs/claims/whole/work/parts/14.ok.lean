theorem hb_M0_ok : ∀ (j : Nat) (M : ab_MI), hb_M0 j = some M → ab_OKm hb_G hb_TB M ∧ ab_OKc hb_G hb_TB M := by
  intro j M h
  unfold hb_M0 at h
  split at h
  · cases h
    exact ⟨⟨(hb_w 884 (by decide +kernel)), by decide +kernel, by decide, fun _ => rfl, hb_F0_ok true, hb_C0_ok, hb_I0_ok, hb_L0_ok⟩, fun ix sort y na ci h => hb_T0_ok ix sort y na ci h mX0_init rfl rfl⟩
  · cases h
    exact ⟨⟨(hb_w 1832 (by decide +kernel)), by decide +kernel, by decide, (fun h => by cases h), hb_F0_ok false, hb_C0_ok, hb_I0_ok, hb_L0_ok⟩, fun ix sort y na ci h => hb_T0_ok ix sort y na ci h mX0_rowSize rfl rfl⟩
  · cases h
    exact ⟨⟨(hb_w 1845 (by decide +kernel)), by decide +kernel, by decide, (fun h => by cases h), hb_F0_ok false, hb_C0_ok, hb_I0_ok, hb_L0_ok⟩, fun ix sort y na ci h => hb_T0_ok ix sort y na ci h mX0_endsWithSeveral rfl rfl⟩
  · cases h
    exact ⟨⟨(hb_w 1840 (by decide +kernel)), by decide +kernel, by decide, (fun h => by cases h), hb_F0_ok false, hb_C0_ok, hb_I0_ok, hb_L0_ok⟩, fun ix sort y na ci h => hb_T0_ok ix sort y na ci h mX0_inRow rfl rfl⟩
  · cases h
    exact ⟨⟨(hb_w 1781 (by decide +kernel)), by decide +kernel, by decide, (fun h => by cases h), hb_F0_ok false, hb_C0_ok, hb_I0_ok, hb_L0_ok⟩, fun ix sort y na ci h => hb_T0_ok ix sort y na ci h mX0_choose rfl rfl⟩
  · cases h
    exact ⟨⟨(hb_w 1797 (by decide +kernel)), by decide +kernel, by decide, (fun h => by cases h), hb_F0_ok false, hb_C0_ok, hb_I0_ok, hb_L0_ok⟩, fun ix sort y na ci h => hb_T0_ok ix sort y na ci h mX0_gatherApplying rfl rfl⟩
  · cases h
    exact ⟨⟨(hb_w 1801 (by decide +kernel)), by decide +kernel, by decide, (fun h => by cases h), hb_F0_ok false, hb_C0_ok, hb_I0_ok, hb_L0_ok⟩, fun ix sort y na ci h => hb_T0_ok ix sort y na ci h mX0_isOn rfl rfl⟩
  · cases h
    exact ⟨⟨(hb_w 1806 (by decide +kernel)), by decide +kernel, by decide, (fun h => by cases h), hb_F0_ok false, hb_C0_ok, hb_I0_ok, hb_L0_ok⟩, fun ix sort y na ci h => hb_T0_ok ix sort y na ci h mX0_takes rfl rfl⟩
  · cases h
    exact ⟨⟨(hb_w 1810 (by decide +kernel)), by decide +kernel, by decide, (fun h => by cases h), hb_F0_ok false, hb_C0_ok, hb_I0_ok, hb_L0_ok⟩, fun ix sort y na ci h => hb_T0_ok ix sort y na ci h mX0_holds rfl rfl⟩
  · cases h
    exact ⟨⟨(hb_w 1815 (by decide +kernel)), by decide +kernel, by decide, (fun h => by cases h), hb_F0_ok false, hb_C0_ok, hb_I0_ok, hb_L0_ok⟩, fun ix sort y na ci h => hb_T0_ok ix sort y na ci h mX0_gatherGroup rfl rfl⟩
  · cases h
    exact ⟨⟨(hb_w 1819 (by decide +kernel)), by decide +kernel, by decide, (fun h => by cases h), hb_F0_ok false, hb_C0_ok, hb_I0_ok, hb_L0_ok⟩, fun ix sort y na ci h => hb_T0_ok ix sort y na ci h mX0_layGroup rfl rfl⟩
  · cases h
    exact ⟨⟨(hb_w 1824 (by decide +kernel)), by decide +kernel, by decide, (fun h => by cases h), hb_F0_ok false, hb_C0_ok, hb_I0_ok, hb_L0_ok⟩, fun ix sort y na ci h => hb_T0_ok ix sort y na ci h mX0_pickNext rfl rfl⟩
  · cases h
theorem hb_M1_ok : ∀ (j : Nat) (M : ab_MI), hb_M1 j = some M → ab_OKm hb_G hb_TB M ∧ ab_OKc hb_G hb_TB M := by
  intro j M h
  unfold hb_M1 at h
  split at h
  · cases h
    exact ⟨⟨(hb_w 388 (by decide +kernel)), by decide +kernel, by decide, fun _ => rfl, hb_F1_ok true, hb_C1_ok, hb_I1_ok, hb_L1_ok⟩, fun ix sort y na ci h => hb_T1_ok ix sort y na ci h mX1_init rfl rfl⟩
  · cases h
    exact ⟨⟨(hb_w 1269 (by decide +kernel)), by decide +kernel, by decide, (fun h => by cases h), hb_F1_ok false, hb_C1_ok, hb_I1_ok, hb_L1_ok⟩, fun ix sort y na ci h => hb_T1_ok ix sort y na ci h mX1_open rfl rfl⟩
  · cases h
    exact ⟨⟨(hb_w 1302 (by decide +kernel)), by decide +kernel, by decide, (fun h => by cases h), hb_F1_ok false, hb_C1_ok, hb_I1_ok, hb_L1_ok⟩, fun ix sort y na ci h => hb_T1_ok ix sort y na ci h mX1_emit rfl rfl⟩
  · cases h
    exact ⟨⟨(hb_w 1310 (by decide +kernel)), by decide +kernel, by decide, (fun h => by cases h), hb_F1_ok false, hb_C1_ok, hb_I1_ok, hb_L1_ok⟩, fun ix sort y na ci h => hb_T1_ok ix sort y na ci h mX1_aim rfl rfl⟩
  · cases h
theorem hb_M2_ok : ∀ (j : Nat) (M : ab_MI), hb_M2 j = some M → ab_OKm hb_G hb_TB M ∧ ab_OKc hb_G hb_TB M := by
  intro j M h
  unfold hb_M2 at h
  split at h
  · cases h
    exact ⟨⟨(hb_w 259 (by decide +kernel)), by decide +kernel, by decide, fun _ => rfl, hb_F2_ok true, hb_C2_ok, hb_I2_ok, hb_L2_ok⟩, fun ix sort y na ci h => hb_T2_ok ix sort y na ci h mX2_init rfl rfl⟩
  · cases h
    exact ⟨⟨(hb_w 552 (by decide +kernel)), by decide +kernel, by decide, (fun h => by cases h), hb_F2_ok false, hb_C2_ok, hb_I2_ok, hb_L2_ok⟩, fun ix sort y na ci h => hb_T2_ok ix sort y na ci h mX2_isBelow rfl rfl⟩
  · cases h
    exact ⟨⟨(hb_w 525 (by decide +kernel)), by decide +kernel, by decide, (fun h => by cases h), hb_F2_ok false, hb_C2_ok, hb_I2_ok, hb_L2_ok⟩, fun ix sort y na ci h => hb_T2_ok ix sort y na ci h mX2_inRow rfl rfl⟩
  · cases h
    exact ⟨⟨(hb_w 1613 (by decide +kernel)), by decide +kernel, by decide, (fun h => by cases h), hb_F2_ok false, hb_C2_ok, hb_I2_ok, hb_L2_ok⟩, fun ix sort y na ci h => hb_T2_ok ix sort y na ci h mX2_spotInRow rfl rfl⟩
  · cases h
    exact ⟨⟨(hb_w 1200 (by decide +kernel)), by decide +kernel, by decide, (fun h => by cases h), hb_F2_ok false, hb_C2_ok, hb_I2_ok, hb_L2_ok⟩, fun ix sort y na ci h => hb_T2_ok ix sort y na ci h mX2_isParent rfl rfl⟩
  · cases h
    exact ⟨⟨(hb_w 533 (by decide +kernel)), by decide +kernel, by decide, (fun h => by cases h), hb_F2_ok false, hb_C2_ok, hb_I2_ok, hb_L2_ok⟩, fun ix sort y na ci h => hb_T2_ok ix sort y na ci h mX2_addParent rfl rfl⟩
  · cases h
    exact ⟨⟨(hb_w 484 (by decide +kernel)), by decide +kernel, by decide, (fun h => by cases h), hb_F2_ok false, hb_C2_ok, hb_I2_ok, hb_L2_ok⟩, fun ix sort y na ci h => hb_T2_ok ix sort y na ci h mX2_make rfl rfl⟩
  · cases h
    exact ⟨⟨(hb_w 501 (by decide +kernel)), by decide +kernel, by decide, (fun h => by cases h), hb_F2_ok false, hb_C2_ok, hb_I2_ok, hb_L2_ok⟩, fun ix sort y na ci h => hb_T2_ok ix sort y na ci h mX2_putInRow rfl rfl⟩
  · cases h
    exact ⟨⟨(hb_w 494 (by decide +kernel)), by decide +kernel, by decide, (fun h => by cases h), hb_F2_ok false, hb_C2_ok, hb_I2_ok, hb_L2_ok⟩, fun ix sort y na ci h => hb_T2_ok ix sort y na ci h mX2_merge rfl rfl⟩
  · cases h
    exact ⟨⟨(hb_w 509 (by decide +kernel)), by decide +kernel, by decide, (fun h => by cases h), hb_F2_ok false, hb_C2_ok, hb_I2_ok, hb_L2_ok⟩, fun ix sort y na ci h => hb_T2_ok ix sort y na ci h mX2_listLength rfl rfl⟩
  · cases h
    exact ⟨⟨(hb_w 513 (by decide +kernel)), by decide +kernel, by decide, (fun h => by cases h), hb_F2_ok false, hb_C2_ok, hb_I2_ok, hb_L2_ok⟩, fun ix sort y na ci h => hb_T2_ok ix sort y na ci h mX2_inList rfl rfl⟩
  · cases h
    exact ⟨⟨(hb_w 505 (by decide +kernel)), by decide +kernel, by decide, (fun h => by cases h), hb_F2_ok false, hb_C2_ok, hb_I2_ok, hb_L2_ok⟩, fun ix sort y na ci h => hb_T2_ok ix sort y na ci h mX2_firstFreeHead rfl rfl⟩
  · cases h
    exact ⟨⟨(hb_w 517 (by decide +kernel)), by decide +kernel, by decide, (fun h => by cases h), hb_F2_ok false, hb_C2_ok, hb_I2_ok, hb_L2_ok⟩, fun ix sort y na ci h => hb_T2_ok ix sort y na ci h mX2_isBehindAHead rfl rfl⟩
  · cases h
    exact ⟨⟨(hb_w 521 (by decide +kernel)), by decide +kernel, by decide, (fun h => by cases h), hb_F2_ok false, hb_C2_ok, hb_I2_ok, hb_L2_ok⟩, fun ix sort y na ci h => hb_T2_ok ix sort y na ci h mX2_joinByFirst rfl rfl⟩
  · cases h
    exact ⟨⟨(hb_w 529 (by decide +kernel)), by decide +kernel, by decide, (fun h => by cases h), hb_F2_ok false, hb_C2_ok, hb_I2_ok, hb_L2_ok⟩, fun ix sort y na ci h => hb_T2_ok ix sort y na ci h mX2_joinByLast rfl rfl⟩
  · cases h
theorem hb_M3_ok : ∀ (j : Nat) (M : ab_MI), hb_M3 j = some M → ab_OKm hb_G hb_TB M ∧ ab_OKc hb_G hb_TB M := by
  intro j M h
  unfold hb_M3 at h
  split at h
  · cases h
    exact ⟨⟨(hb_w 790 (by decide +kernel)), by decide +kernel, by decide, fun _ => rfl, hb_F3_ok true, hb_C3_ok, hb_I3_ok, hb_L3_ok⟩, fun ix sort y na ci h => hb_T3_ok ix sort y na ci h mX3_init rfl rfl⟩
  · cases h
    exact ⟨⟨(hb_w 1637 (by decide +kernel)), by decide +kernel, by decide, (fun h => by cases h), hb_F3_ok false, hb_C3_ok, hb_I3_ok, hb_L3_ok⟩, fun ix sort y na ci h => hb_T3_ok ix sort y na ci h mX3_countLists rfl rfl⟩
  · cases h
    exact ⟨⟨(hb_w 1682 (by decide +kernel)), by decide +kernel, by decide, (fun h => by cases h), hb_F3_ok false, hb_C3_ok, hb_I3_ok, hb_L3_ok⟩, fun ix sort y na ci h => hb_T3_ok ix sort y na ci h mX3_countCells rfl rfl⟩
  · cases h
    exact ⟨⟨(hb_w 1686 (by decide +kernel)), by decide +kernel, by decide, (fun h => by cases h), hb_F3_ok false, hb_C3_ok, hb_I3_ok, hb_L3_ok⟩, fun ix sort y na ci h => hb_T3_ok ix sort y na ci h mX3_countPressed rfl rfl⟩
  · cases h
    exact ⟨⟨(hb_w 1690 (by decide +kernel)), by decide +kernel, by decide, (fun h => by cases h), hb_F3_ok false, hb_C3_ok, hb_I3_ok, hb_L3_ok⟩, fun ix sort y na ci h => hb_T3_ok ix sort y na ci h mX3_countNodes rfl rfl⟩
  · cases h
    exact ⟨⟨(hb_w 1788 (by decide +kernel)), by decide +kernel, by decide, (fun h => by cases h), hb_F3_ok false, hb_C3_ok, hb_I3_ok, hb_L3_ok⟩, fun ix sort y na ci h => hb_T3_ok ix sort y na ci h mX3_looksFor rfl rfl⟩
  · cases h
    exact ⟨⟨(hb_w 1793 (by decide +kernel)), by decide +kernel, by decide, (fun h => by cases h), hb_F3_ok false, hb_C3_ok, hb_I3_ok, hb_L3_ok⟩, fun ix sort y na ci h => hb_T3_ok ix sort y na ci h mX3_looksInTree rfl rfl⟩
  · cases h
    exact ⟨⟨(hb_w 1664 (by decide +kernel)), by decide +kernel, by decide, (fun h => by cases h), hb_F3_ok false, hb_C3_ok, hb_I3_ok, hb_L3_ok⟩, fun ix sort y na ci h => hb_T3_ok ix sort y na ci h mX3_matters rfl rfl⟩
  · cases h
    exact ⟨⟨(hb_w 1641 (by decide +kernel)), by decide +kernel, by decide, (fun h => by cases h), hb_F3_ok false, hb_C3_ok, hb_I3_ok, hb_L3_ok⟩, fun ix sort y na ci h => hb_T3_ok ix sort y na ci h mX3_plan rfl rfl⟩
  · cases h
    exact ⟨⟨(hb_w 1652 (by decide +kernel)), by decide +kernel, by decide, (fun h => by cases h), hb_F3_ok false, hb_C3_ok, hb_I3_ok, hb_L3_ok⟩, fun ix sort y na ci h => hb_T3_ok ix sort y na ci h mX3_isOrderOf rfl rfl⟩
  · cases h
    exact ⟨⟨(hb_w 1645 (by decide +kernel)), by decide +kernel, by decide, (fun h => by cases h), hb_F3_ok false, hb_C3_ok, hb_I3_ok, hb_L3_ok⟩, fun ix sort y na ci h => hb_T3_ok ix sort y na ci h mX3_findLive rfl rfl⟩
  · cases h
    exact ⟨⟨(hb_w 1656 (by decide +kernel)), by decide +kernel, by decide, (fun h => by cases h), hb_F3_ok false, hb_C3_ok, hb_I3_ok, hb_L3_ok⟩, fun ix sort y na ci h => hb_T3_ok ix sort y na ci h mX3_countSets rfl rfl⟩
  · cases h
    exact ⟨⟨(hb_w 1660 (by decide +kernel)), by decide +kernel, by decide, (fun h => by cases h), hb_F3_ok false, hb_C3_ok, hb_I3_ok, hb_L3_ok⟩, fun ix sort y na ci h => hb_T3_ok ix sort y na ci h mX3_emptySet rfl rfl⟩
  · cases h
    exact ⟨⟨(hb_w 1678 (by decide +kernel)), by decide +kernel, by decide, (fun h => by cases h), hb_F3_ok false, hb_C3_ok, hb_I3_ok, hb_L3_ok⟩, fun ix sort y na ci h => hb_T3_ok ix sort y na ci h mX3_addToSet rfl rfl⟩
  · cases h
    exact ⟨⟨(hb_w 1672 (by decide +kernel)), by decide +kernel, by decide, (fun h => by cases h), hb_F3_ok false, hb_C3_ok, hb_I3_ok, hb_L3_ok⟩, fun ix sort y na ci h => hb_T3_ok ix sort y na ci h mX3_spotFor rfl rfl⟩
  · cases h
    exact ⟨⟨(hb_w 1668 (by decide +kernel)), by decide +kernel, by decide, (fun h => by cases h), hb_F3_ok false, hb_C3_ok, hb_I3_ok, hb_L3_ok⟩, fun ix sort y na ci h => hb_T3_ok ix sort y na ci h mX3_makeRoomInSet rfl rfl⟩
  · cases h
theorem hb_M4_ok : ∀ (j : Nat) (M : ab_MI), hb_M4 j = some M → ab_OKm hb_G hb_TB M ∧ ab_OKc hb_G hb_TB M := by
  intro j M h
  unfold hb_M4 at h
  split at h
  · cases h
    exact ⟨⟨(hb_w 934 (by decide +kernel)), by decide +kernel, by decide, fun _ => rfl, hb_F4_ok true, hb_C4_ok, hb_I4_ok, hb_L4_ok⟩, fun ix sort y na ci h => hb_T4_ok ix sort y na ci h mX4_init rfl rfl⟩
  · cases h
    exact ⟨⟨(hb_w 1784 (by decide +kernel)), by decide +kernel, by decide, (fun h => by cases h), hb_F4_ok false, hb_C4_ok, hb_I4_ok, hb_L4_ok⟩, fun ix sort y na ci h => hb_T4_ok ix sort y na ci h mX4_kindOf rfl rfl⟩
  · cases h
    exact ⟨⟨(hb_w 1854 (by decide +kernel)), by decide +kernel, by decide, (fun h => by cases h), hb_F4_ok false, hb_C4_ok, hb_I4_ok, hb_L4_ok⟩, fun ix sort y na ci h => hb_T4_ok ix sort y na ci h mX4_valueOf rfl rfl⟩
  · cases h
    exact ⟨⟨(hb_w 1760 (by decide +kernel)), by decide +kernel, by decide, (fun h => by cases h), hb_F4_ok false, hb_C4_ok, hb_I4_ok, hb_L4_ok⟩, fun ix sort y na ci h => hb_T4_ok ix sort y na ci h mX4_perform rfl rfl⟩
  · cases h
    exact ⟨⟨(hb_w 1764 (by decide +kernel)), by decide +kernel, by decide, (fun h => by cases h), hb_F4_ok false, hb_C4_ok, hb_I4_ok, hb_L4_ok⟩, fun ix sort y na ci h => hb_T4_ok ix sort y na ci h mX4_beginRun rfl rfl⟩
  · cases h
    exact ⟨⟨(hb_w 1769 (by decide +kernel)), by decide +kernel, by decide, (fun h => by cases h), hb_F4_ok false, hb_C4_ok, hb_I4_ok, hb_L4_ok⟩, fun ix sort y na ci h => hb_T4_ok ix sort y na ci h mX4_finish rfl rfl⟩
  · cases h
    exact ⟨⟨(hb_w 1872 (by decide +kernel)), by decide +kernel, by decide, (fun h => by cases h), hb_F4_ok false, hb_C4_ok, hb_I4_ok, hb_L4_ok⟩, fun ix sort y na ci h => hb_T4_ok ix sort y na ci h mX4_push rfl rfl⟩
  · cases h
    exact ⟨⟨(hb_w 1777 (by decide +kernel)), by decide +kernel, by decide, (fun h => by cases h), hb_F4_ok false, hb_C4_ok, hb_I4_ok, hb_L4_ok⟩, fun ix sort y na ci h => hb_T4_ok ix sort y na ci h mX4_pop rfl rfl⟩
  · cases h
    exact ⟨⟨(hb_w 1773 (by decide +kernel)), by decide +kernel, by decide, (fun h => by cases h), hb_F4_ok false, hb_C4_ok, hb_I4_ok, hb_L4_ok⟩, fun ix sort y na ci h => hb_T4_ok ix sort y na ci h mX4_takeGiven rfl rfl⟩
  · cases h
    exact ⟨⟨(hb_w 1894 (by decide +kernel)), by decide +kernel, by decide, (fun h => by cases h), hb_F4_ok false, hb_C4_ok, hb_I4_ok, hb_L4_ok⟩, fun ix sort y na ci h => hb_T4_ok ix sort y na ci h mX4_obey rfl rfl⟩
  · cases h
    exact ⟨⟨(hb_w 1897 (by decide +kernel)), by decide +kernel, by decide, (fun h => by cases h), hb_F4_ok false, hb_C4_ok, hb_I4_ok, hb_L4_ok⟩, fun ix sort y na ci h => hb_T4_ok ix sort y na ci h mX4_without rfl rfl⟩
  · cases h
    exact ⟨⟨(hb_w 1914 (by decide +kernel)), by decide +kernel, by decide, (fun h => by cases h), hb_F4_ok false, hb_C4_ok, hb_I4_ok, hb_L4_ok⟩, fun ix sort y na ci h => hb_T4_ok ix sort y na ci h mX4_reckon rfl rfl⟩
  · cases h
    exact ⟨⟨(hb_w 1919 (by decide +kernel)), by decide +kernel, by decide, (fun h => by cases h), hb_F4_ok false, hb_C4_ok, hb_I4_ok, hb_L4_ok⟩, fun ix sort y na ci h => hb_T4_ok ix sort y na ci h mX4_joinTwo rfl rfl⟩
  · cases h
    exact ⟨⟨(hb_w 1910 (by decide +kernel)), by decide +kernel, by decide, (fun h => by cases h), hb_F4_ok false, hb_C4_ok, hb_I4_ok, hb_L4_ok⟩, fun ix sort y na ci h => hb_T4_ok ix sort y na ci h mX4_showTop rfl rfl⟩
  · cases h
    exact ⟨⟨(hb_w 1902 (by decide +kernel)), by decide +kernel, by decide, (fun h => by cases h), hb_F4_ok false, hb_C4_ok, hb_I4_ok, hb_L4_ok⟩, fun ix sort y na ci h => hb_T4_ok ix sort y na ci h mX4_beginTry rfl rfl⟩
  · cases h
    exact ⟨⟨(hb_w 1906 (by decide +kernel)), by decide +kernel, by decide, (fun h => by cases h), hb_F4_ok false, hb_C4_ok, hb_I4_ok, hb_L4_ok⟩, fun ix sort y na ci h => hb_T4_ok ix sort y na ci h mX4_endTry rfl rfl⟩
  · cases h
    exact ⟨⟨(hb_w 1890 (by decide +kernel)), by decide +kernel, by decide, (fun h => by cases h), hb_F4_ok false, hb_C4_ok, hb_I4_ok, hb_L4_ok⟩, fun ix sort y na ci h => hb_T4_ok ix sort y na ci h mX4_failWith rfl rfl⟩
  · cases h
    exact ⟨⟨(hb_w 1863 (by decide +kernel)), by decide +kernel, by decide, (fun h => by cases h), hb_F4_ok false, hb_C4_ok, hb_I4_ok, hb_L4_ok⟩, fun ix sort y na ci h => hb_T4_ok ix sort y na ci h mX4_inFrame rfl rfl⟩
  · cases h
    exact ⟨⟨(hb_w 1828 (by decide +kernel)), by decide +kernel, by decide, (fun h => by cases h), hb_F4_ok false, hb_C4_ok, hb_I4_ok, hb_L4_ok⟩, fun ix sort y na ci h => hb_T4_ok ix sort y na ci h mX4_beginCall rfl rfl⟩
  · cases h
    exact ⟨⟨(hb_w 1836 (by decide +kernel)), by decide +kernel, by decide, (fun h => by cases h), hb_F4_ok false, hb_C4_ok, hb_I4_ok, hb_L4_ok⟩, fun ix sort y na ci h => hb_T4_ok ix sort y na ci h mX4_beginMethod rfl rfl⟩
  · cases h
    exact ⟨⟨(hb_w 1876 (by decide +kernel)), by decide +kernel, by decide, (fun h => by cases h), hb_F4_ok false, hb_C4_ok, hb_I4_ok, hb_L4_ok⟩, fun ix sort y na ci h => hb_T4_ok ix sort y na ci h mX4_goToNext rfl rfl⟩
  · cases h
    exact ⟨⟨(hb_w 1849 (by decide +kernel)), by decide +kernel, by decide, (fun h => by cases h), hb_F4_ok false, hb_C4_ok, hb_I4_ok, hb_L4_ok⟩, fun ix sort y na ci h => hb_T4_ok ix sort y na ci h mX4_beginInside rfl rfl⟩
  · cases h
    exact ⟨⟨(hb_w 1859 (by decide +kernel)), by decide +kernel, by decide, (fun h => by cases h), hb_F4_ok false, hb_C4_ok, hb_I4_ok, hb_L4_ok⟩, fun ix sort y na ci h => hb_T4_ok ix sort y na ci h mX4_goOnInside rfl rfl⟩
  · cases h
    exact ⟨⟨(hb_w 1867 (by decide +kernel)), by decide +kernel, by decide, (fun h => by cases h), hb_F4_ok false, hb_C4_ok, hb_I4_ok, hb_L4_ok⟩, fun ix sort y na ci h => hb_T4_ok ix sort y na ci h mX4_plainTurns rfl rfl⟩
  · cases h
    exact ⟨⟨(hb_w 1880 (by decide +kernel)), by decide +kernel, by decide, (fun h => by cases h), hb_F4_ok false, hb_C4_ok, hb_I4_ok, hb_L4_ok⟩, fun ix sort y na ci h => hb_T4_ok ix sort y na ci h mX4_endMethod rfl rfl⟩
  · cases h
    exact ⟨⟨(hb_w 1884 (by decide +kernel)), by decide +kernel, by decide, (fun h => by cases h), hb_F4_ok false, hb_C4_ok, hb_I4_ok, hb_L4_ok⟩, fun ix sort y na ci h => hb_T4_ok ix sort y na ci h mX4_joinValue rfl rfl⟩
  · cases h
theorem hb_M5_ok : ∀ (j : Nat) (M : ab_MI), hb_M5 j = some M → ab_OKm hb_G hb_TB M ∧ ab_OKc hb_G hb_TB M := by
  intro j M h
  unfold hb_M5 at h
  split at h
  · cases h
    exact ⟨⟨(hb_w 296 (by decide +kernel)), by decide +kernel, by decide, fun _ => rfl, hb_F5_ok true, hb_C5_ok, hb_I5_ok, hb_L5_ok⟩, fun ix sort y na ci h => hb_T5_ok ix sort y na ci h mX5_init rfl rfl⟩
  · cases h
    exact ⟨⟨(hb_w 544 (by decide +kernel)), by decide +kernel, by decide, (fun h => by cases h), hb_F5_ok false, hb_C5_ok, hb_I5_ok, hb_L5_ok⟩, fun ix sort y na ci h => hb_T5_ok ix sort y na ci h mX5_isThere rfl rfl⟩
  · cases h
    exact ⟨⟨(hb_w 1224 (by decide +kernel)), by decide +kernel, by decide, (fun h => by cases h), hb_F5_ok false, hb_C5_ok, hb_I5_ok, hb_L5_ok⟩, fun ix sort y na ci h => hb_T5_ok ix sort y na ci h mX5_open rfl rfl⟩
  · cases h
    exact ⟨⟨(hb_w 1257 (by decide +kernel)), by decide +kernel, by decide, (fun h => by cases h), hb_F5_ok false, hb_C5_ok, hb_I5_ok, hb_L5_ok⟩, fun ix sort y na ci h => hb_T5_ok ix sort y na ci h mX5_addTest rfl rfl⟩
  · cases h
    exact ⟨⟨(hb_w 1567 (by decide +kernel)), by decide +kernel, by decide, (fun h => by cases h), hb_F5_ok false, hb_C5_ok, hb_I5_ok, hb_L5_ok⟩, fun ix sort y na ci h => hb_T5_ok ix sort y na ci h mX5_asked rfl rfl⟩
  · cases h
    exact ⟨⟨(hb_w 1354 (by decide +kernel)), by decide +kernel, by decide, (fun h => by cases h), hb_F5_ok false, hb_C5_ok, hb_I5_ok, hb_L5_ok⟩, fun ix sort y na ci h => hb_T5_ok ix sort y na ci h mX5_sameKinds rfl rfl⟩
  · cases h
    exact ⟨⟨(hb_w 1358 (by decide +kernel)), by decide +kernel, by decide, (fun h => by cases h), hb_F5_ok false, hb_C5_ok, hb_I5_ok, hb_L5_ok⟩, fun ix sort y na ci h => hb_T5_ok ix sort y na ci h mX5_sameEquals rfl rfl⟩
  · cases h
    exact ⟨⟨(hb_w 1350 (by decide +kernel)), by decide +kernel, by decide, (fun h => by cases h), hb_F5_ok false, hb_C5_ok, hb_I5_ok, hb_L5_ok⟩, fun ix sort y na ci h => hb_T5_ok ix sort y na ci h mX5_hasTwin rfl rfl⟩
  · cases h
theorem hb_M6_ok : ∀ (j : Nat) (M : ab_MI), hb_M6 j = some M → ab_OKm hb_G hb_TB M ∧ ab_OKc hb_G hb_TB M := by
  intro j M h
  unfold hb_M6 at h
  split at h
  · cases h
    exact ⟨⟨(hb_w 729 (by decide +kernel)), by decide +kernel, by decide, fun _ => rfl, hb_F6_ok true, hb_C6_ok, hb_I6_ok, hb_L6_ok⟩, fun ix sort y na ci h => hb_T6_ok ix sort y na ci h mX6_init rfl rfl⟩
  · cases h
    exact ⟨⟨(hb_w 1387 (by decide +kernel)), by decide +kernel, by decide, (fun h => by cases h), hb_F6_ok false, hb_C6_ok, hb_I6_ok, hb_L6_ok⟩, fun ix sort y na ci h => hb_T6_ok ix sort y na ci h mX6_forgetAll rfl rfl⟩
  · cases h
    exact ⟨⟨(hb_w 1558 (by decide +kernel)), by decide +kernel, by decide, (fun h => by cases h), hb_F6_ok false, hb_C6_ok, hb_I6_ok, hb_L6_ok⟩, fun ix sort y na ci h => hb_T6_ok ix sort y na ci h mX6_compare rfl rfl⟩
  · cases h
    exact ⟨⟨(hb_w 1563 (by decide +kernel)), by decide +kernel, by decide, (fun h => by cases h), hb_F6_ok false, hb_C6_ok, hb_I6_ok, hb_L6_ok⟩, fun ix sort y na ci h => hb_T6_ok ix sort y na ci h mX6_whoAsksMore rfl rfl⟩
  · cases h
    exact ⟨⟨(hb_w 1571 (by decide +kernel)), by decide +kernel, by decide, (fun h => by cases h), hb_F6_ok false, hb_C6_ok, hb_I6_ok, hb_L6_ok⟩, fun ix sort y na ci h => hb_T6_ok ix sort y na ci h mX6_isTests rfl rfl⟩
  · cases h
theorem hb_M7_ok : ∀ (j : Nat) (M : ab_MI), hb_M7 j = some M → ab_OKm hb_G hb_TB M ∧ ab_OKc hb_G hb_TB M := by
  intro j M h
  unfold hb_M7 at h
  split at h
  · cases h
    exact ⟨⟨(hb_w 655 (by decide +kernel)), by decide +kernel, by decide, fun _ => rfl, hb_F7_ok true, hb_C7_ok, hb_I7_ok, hb_L7_ok⟩, fun ix sort y na ci h => hb_T7_ok ix sort y na ci h mX7_init rfl rfl⟩
  · cases h
    exact ⟨⟨(hb_w 1053 (by decide +kernel)), by decide +kernel, by decide, (fun h => by cases h), hb_F7_ok false, hb_C7_ok, hb_I7_ok, hb_L7_ok⟩, fun ix sort y na ci h => hb_T7_ok ix sort y na ci h mX7_readText rfl rfl⟩
  · cases h
    exact ⟨⟨(hb_w 1375 (by decide +kernel)), by decide +kernel, by decide, (fun h => by cases h), hb_F7_ok false, hb_C7_ok, hb_I7_ok, hb_L7_ok⟩, fun ix sort y na ci h => hb_T7_ok ix sort y na ci h mX7_readProgram rfl rfl⟩
  · cases h
    exact ⟨⟨(hb_w 1155 (by decide +kernel)), by decide +kernel, by decide, (fun h => by cases h), hb_F7_ok false, hb_C7_ok, hb_I7_ok, hb_L7_ok⟩, fun ix sort y na ci h => hb_T7_ok ix sort y na ci h mX7_begin rfl rfl⟩
  · cases h
    exact ⟨⟨(hb_w 1205 (by decide +kernel)), by decide +kernel, by decide, (fun h => by cases h), hb_F7_ok false, hb_C7_ok, hb_I7_ok, hb_L7_ok⟩, fun ix sort y na ci h => hb_T7_ok ix sort y na ci h mX7_isClean rfl rfl⟩
  · cases h
    exact ⟨⟨(hb_w 1367 (by decide +kernel)), by decide +kernel, by decide, (fun h => by cases h), hb_F7_ok false, hb_C7_ok, hb_I7_ok, hb_L7_ok⟩, fun ix sort y na ci h => hb_T7_ok ix sort y na ci h mX7_verdict rfl rfl⟩
  · cases h
    exact ⟨⟨(hb_w 1166 (by decide +kernel)), by decide +kernel, by decide, (fun h => by cases h), hb_F7_ok false, hb_C7_ok, hb_I7_ok, hb_L7_ok⟩, fun ix sort y na ci h => hb_T7_ok ix sort y na ci h mX7_sign rfl rfl⟩
  · cases h
    exact ⟨⟨(hb_w 1174 (by decide +kernel)), by decide +kernel, by decide, (fun h => by cases h), hb_F7_ok false, hb_C7_ok, hb_I7_ok, hb_L7_ok⟩, fun ix sort y na ci h => hb_T7_ok ix sort y na ci h mX7_take rfl rfl⟩
  · cases h
    exact ⟨⟨(hb_w 1190 (by decide +kernel)), by decide +kernel, by decide, (fun h => by cases h), hb_F7_ok false, hb_C7_ok, hb_I7_ok, hb_L7_ok⟩, fun ix sort y na ci h => hb_T7_ok ix sort y na ci h mX7_breakRule rfl rfl⟩
  · cases h
    exact ⟨⟨(hb_w 1178 (by decide +kernel)), by decide +kernel, by decide, (fun h => by cases h), hb_F7_ok false, hb_C7_ok, hb_I7_ok, hb_L7_ok⟩, fun ix sort y na ci h => hb_T7_ok ix sort y na ci h mX7_takeNewName rfl rfl⟩
  · cases h
    exact ⟨⟨(hb_w 1195 (by decide +kernel)), by decide +kernel, by decide, (fun h => by cases h), hb_F7_ok false, hb_C7_ok, hb_I7_ok, hb_L7_ok⟩, fun ix sort y na ci h => hb_T7_ok ix sort y na ci h mX7_takeKnownName rfl rfl⟩
  · cases h
    exact ⟨⟨(hb_w 1170 (by decide +kernel)), by decide +kernel, by decide, (fun h => by cases h), hb_F7_ok false, hb_C7_ok, hb_I7_ok, hb_L7_ok⟩, fun ix sort y na ci h => hb_T7_ok ix sort y na ci h mX7_readKind rfl rfl⟩
  · cases h
    exact ⟨⟨(hb_w 1211 (by decide +kernel)), by decide +kernel, by decide, (fun h => by cases h), hb_F7_ok false, hb_C7_ok, hb_I7_ok, hb_L7_ok⟩, fun ix sort y na ci h => hb_T7_ok ix sort y na ci h mX7_readCall rfl rfl⟩
  · cases h
    exact ⟨⟨(hb_w 1216 (by decide +kernel)), by decide +kernel, by decide, (fun h => by cases h), hb_F7_ok false, hb_C7_ok, hb_I7_ok, hb_L7_ok⟩, fun ix sort y na ci h => hb_T7_ok ix sort y na ci h mX7_readLayer rfl rfl⟩
  · cases h
    exact ⟨⟨(hb_w 1220 (by decide +kernel)), by decide +kernel, by decide, (fun h => by cases h), hb_F7_ok false, hb_C7_ok, hb_I7_ok, hb_L7_ok⟩, fun ix sort y na ci h => hb_T7_ok ix sort y na ci h mX7_readMethod rfl rfl⟩
  · cases h
    exact ⟨⟨(hb_w 1229 (by decide +kernel)), by decide +kernel, by decide, (fun h => by cases h), hb_F7_ok false, hb_C7_ok, hb_I7_ok, hb_L7_ok⟩, fun ix sort y na ci h => hb_T7_ok ix sort y na ci h mX7_readSpecs rfl rfl⟩
  · cases h
    exact ⟨⟨(hb_w 1233 (by decide +kernel)), by decide +kernel, by decide, (fun h => by cases h), hb_F7_ok false, hb_C7_ok, hb_I7_ok, hb_L7_ok⟩, fun ix sort y na ci h => hb_T7_ok ix sort y na ci h mX7_readSpec rfl rfl⟩
  · cases h
    exact ⟨⟨(hb_w 1237 (by decide +kernel)), by decide +kernel, by decide, (fun h => by cases h), hb_F7_ok false, hb_C7_ok, hb_I7_ok, hb_L7_ok⟩, fun ix sort y na ci h => hb_T7_ok ix sort y na ci h mX7_takeNumber rfl rfl⟩
  · cases h
    exact ⟨⟨(hb_w 1241 (by decide +kernel)), by decide +kernel, by decide, (fun h => by cases h), hb_F7_ok false, hb_C7_ok, hb_I7_ok, hb_L7_ok⟩, fun ix sort y na ci h => hb_T7_ok ix sort y na ci h mX7_readTest rfl rfl⟩
  · cases h
    exact ⟨⟨(hb_w 1246 (by decide +kernel)), by decide +kernel, by decide, (fun h => by cases h), hb_F7_ok false, hb_C7_ok, hb_I7_ok, hb_L7_ok⟩, fun ix sort y na ci h => hb_T7_ok ix sort y na ci h mX7_readOneOfTest rfl rfl⟩
  · cases h
    exact ⟨⟨(hb_w 1252 (by decide +kernel)), by decide +kernel, by decide, (fun h => by cases h), hb_F7_ok false, hb_C7_ok, hb_I7_ok, hb_L7_ok⟩, fun ix sort y na ci h => hb_T7_ok ix sort y na ci h mX7_readComparison rfl rfl⟩
  · cases h
    exact ⟨⟨(hb_w 1261 (by decide +kernel)), by decide +kernel, by decide, (fun h => by cases h), hb_F7_ok false, hb_C7_ok, hb_I7_ok, hb_L7_ok⟩, fun ix sort y na ci h => hb_T7_ok ix sort y na ci h mX7_readTerm rfl rfl⟩
  · cases h
    exact ⟨⟨(hb_w 1265 (by decide +kernel)), by decide +kernel, by decide, (fun h => by cases h), hb_F7_ok false, hb_C7_ok, hb_I7_ok, hb_L7_ok⟩, fun ix sort y na ci h => hb_T7_ok ix sort y na ci h mX7_readBody rfl rfl⟩
  · cases h
    exact ⟨⟨(hb_w 1294 (by decide +kernel)), by decide +kernel, by decide, (fun h => by cases h), hb_F7_ok false, hb_C7_ok, hb_I7_ok, hb_L7_ok⟩, fun ix sort y na ci h => hb_T7_ok ix sort y na ci h mX7_addNode rfl rfl⟩
  · cases h
    exact ⟨⟨(hb_w 1286 (by decide +kernel)), by decide +kernel, by decide, (fun h => by cases h), hb_F7_ok false, hb_C7_ok, hb_I7_ok, hb_L7_ok⟩, fun ix sort y na ci h => hb_T7_ok ix sort y na ci h mX7_readE rfl rfl⟩
  · cases h
    exact ⟨⟨(hb_w 1290 (by decide +kernel)), by decide +kernel, by decide, (fun h => by cases h), hb_F7_ok false, hb_C7_ok, hb_I7_ok, hb_L7_ok⟩, fun ix sort y na ci h => hb_T7_ok ix sort y na ci h mX7_readLet rfl rfl⟩
  · cases h
    exact ⟨⟨(hb_w 1298 (by decide +kernel)), by decide +kernel, by decide, (fun h => by cases h), hb_F7_ok false, hb_C7_ok, hb_I7_ok, hb_L7_ok⟩, fun ix sort y na ci h => hb_T7_ok ix sort y na ci h mX7_readWithVariable rfl rfl⟩
  · cases h
    exact ⟨⟨(hb_w 1306 (by decide +kernel)), by decide +kernel, by decide, (fun h => by cases h), hb_F7_ok false, hb_C7_ok, hb_I7_ok, hb_L7_ok⟩, fun ix sort y na ci h => hb_T7_ok ix sort y na ci h mX7_readIf rfl rfl⟩
  · cases h
    exact ⟨⟨(hb_w 1314 (by decide +kernel)), by decide +kernel, by decide, (fun h => by cases h), hb_F7_ok false, hb_C7_ok, hb_I7_ok, hb_L7_ok⟩, fun ix sort y na ci h => hb_T7_ok ix sort y na ci h mX7_readWith rfl rfl⟩
  · cases h
    exact ⟨⟨(hb_w 1318 (by decide +kernel)), by decide +kernel, by decide, (fun h => by cases h), hb_F7_ok false, hb_C7_ok, hb_I7_ok, hb_L7_ok⟩, fun ix sort y na ci h => hb_T7_ok ix sort y na ci h mX7_readTry rfl rfl⟩
  · cases h
    exact ⟨⟨(hb_w 1322 (by decide +kernel)), by decide +kernel, by decide, (fun h => by cases h), hb_F7_ok false, hb_C7_ok, hb_I7_ok, hb_L7_ok⟩, fun ix sort y na ci h => hb_T7_ok ix sort y na ci h mX7_readCompared rfl rfl⟩
  · cases h
    exact ⟨⟨(hb_w 1326 (by decide +kernel)), by decide +kernel, by decide, (fun h => by cases h), hb_F7_ok false, hb_C7_ok, hb_I7_ok, hb_L7_ok⟩, fun ix sort y na ci h => hb_T7_ok ix sort y na ci h mX7_readSum rfl rfl⟩
  · cases h
    exact ⟨⟨(hb_w 1330 (by decide +kernel)), by decide +kernel, by decide, (fun h => by cases h), hb_F7_ok false, hb_C7_ok, hb_I7_ok, hb_L7_ok⟩, fun ix sort y na ci h => hb_T7_ok ix sort y na ci h mX7_readProduct rfl rfl⟩
  · cases h
    exact ⟨⟨(hb_w 1334 (by decide +kernel)), by decide +kernel, by decide, (fun h => by cases h), hb_F7_ok false, hb_C7_ok, hb_I7_ok, hb_L7_ok⟩, fun ix sort y na ci h => hb_T7_ok ix sort y na ci h mX7_readP rfl rfl⟩
  · cases h
    exact ⟨⟨(hb_w 1338 (by decide +kernel)), by decide +kernel, by decide, (fun h => by cases h), hb_F7_ok false, hb_C7_ok, hb_I7_ok, hb_L7_ok⟩, fun ix sort y na ci h => hb_T7_ok ix sort y na ci h mX7_readNamed rfl rfl⟩
  · cases h
    exact ⟨⟨(hb_w 1346 (by decide +kernel)), by decide +kernel, by decide, (fun h => by cases h), hb_F7_ok false, hb_C7_ok, hb_I7_ok, hb_L7_ok⟩, fun ix sort y na ci h => hb_T7_ok ix sort y na ci h mX7_readNext rfl rfl⟩
  · cases h
    exact ⟨⟨(hb_w 1342 (by decide +kernel)), by decide +kernel, by decide, (fun h => by cases h), hb_F7_ok false, hb_C7_ok, hb_I7_ok, hb_L7_ok⟩, fun ix sort y na ci h => hb_T7_ok ix sort y na ci h mX7_readArguments rfl rfl⟩
  · cases h
theorem hb_M8_ok : ∀ (j : Nat) (M : ab_MI), hb_M8 j = some M → ab_OKm hb_G hb_TB M ∧ ab_OKc hb_G hb_TB M := by
  intro j M h
  unfold hb_M8 at h
  split at h
  · cases h
    exact ⟨⟨(hb_w 661 (by decide +kernel)), by decide +kernel, by decide, fun _ => rfl, hb_F8_ok true, hb_C8_ok, hb_I8_ok, hb_L8_ok⟩, fun ix sort y na ci h => hb_T8_ok ix sort y na ci h mX8_init rfl rfl⟩
  · cases h
    exact ⟨⟨(hb_w 1057 (by decide +kernel)), by decide +kernel, by decide, (fun h => by cases h), hb_F8_ok false, hb_C8_ok, hb_I8_ok, hb_L8_ok⟩, fun ix sort y na ci h => hb_T8_ok ix sort y na ci h mX8_cut rfl rfl⟩
  · cases h
    exact ⟨⟨(hb_w 1078 (by decide +kernel)), by decide +kernel, by decide, (fun h => by cases h), hb_F8_ok false, hb_C8_ok, hb_I8_ok, hb_L8_ok⟩, fun ix sort y na ci h => hb_T8_ok ix sort y na ci h mX8_put rfl rfl⟩
  · cases h
    exact ⟨⟨(hb_w 1064 (by decide +kernel)), by decide +kernel, by decide, (fun h => by cases h), hb_F8_ok false, hb_C8_ok, hb_I8_ok, hb_L8_ok⟩, fun ix sort y na ci h => hb_T8_ok ix sort y na ci h mX8_cutOne rfl rfl⟩
  · cases h
    exact ⟨⟨(hb_w 1068 (by decide +kernel)), by decide +kernel, by decide, (fun h => by cases h), hb_F8_ok false, hb_C8_ok, hb_I8_ok, hb_L8_ok⟩, fun ix sort y na ci h => hb_T8_ok ix sort y na ci h mX8_cutNumber rfl rfl⟩
  · cases h
    exact ⟨⟨(hb_w 1082 (by decide +kernel)), by decide +kernel, by decide, (fun h => by cases h), hb_F8_ok false, hb_C8_ok, hb_I8_ok, hb_L8_ok⟩, fun ix sort y na ci h => hb_T8_ok ix sort y na ci h mX8_cutName rfl rfl⟩
  · cases h
    exact ⟨⟨(hb_w 1093 (by decide +kernel)), by decide +kernel, by decide, (fun h => by cases h), hb_F8_ok false, hb_C8_ok, hb_I8_ok, hb_L8_ok⟩, fun ix sort y na ci h => hb_T8_ok ix sort y na ci h mX8_cutMark rfl rfl⟩
  · cases h
    exact ⟨⟨(hb_w 466 (by decide +kernel)), by decide +kernel, by decide, (fun h => by cases h), hb_F8_ok false, hb_C8_ok, hb_I8_ok, hb_L8_ok⟩, fun ix sort y na ci h => hb_T8_ok ix sort y na ci h mX8_codeOf rfl rfl⟩
  · cases h
    exact ⟨⟨(hb_w 415 (by decide +kernel)), by decide +kernel, by decide, (fun h => by cases h), hb_F8_ok false, hb_C8_ok, hb_I8_ok, hb_L8_ok⟩, fun ix sort y na ci h => hb_T8_ok ix sort y na ci h mX8_packed rfl rfl⟩
  · cases h
    exact ⟨⟨(hb_w 1085 (by decide +kernel)), by decide +kernel, by decide, (fun h => by cases h), hb_F8_ok false, hb_C8_ok, hb_I8_ok, hb_L8_ok⟩, fun ix sort y na ci h => hb_T8_ok ix sort y na ci h mX8_wordOrName rfl rfl⟩
  · cases h
    exact ⟨⟨(hb_w 1089 (by decide +kernel)), by decide +kernel, by decide, (fun h => by cases h), hb_F8_ok false, hb_C8_ok, hb_I8_ok, hb_L8_ok⟩, fun ix sort y na ci h => hb_T8_ok ix sort y na ci h mX8_isWord rfl rfl⟩
  · cases h
theorem hb_M9_ok : ∀ (j : Nat) (M : ab_MI), hb_M9 j = some M → ab_OKm hb_G hb_TB M ∧ ab_OKc hb_G hb_TB M := by
  intro j M h
  unfold hb_M9 at h
  split at h
  · cases h
    exact ⟨⟨(hb_w 735 (by decide +kernel)), by decide +kernel, by decide, fun _ => rfl, hb_F9_ok true, hb_C9_ok, hb_I9_ok, hb_L9_ok⟩, fun ix sort y na ci h => hb_T9_ok ix sort y na ci h mX9_init rfl rfl⟩
  · cases h
    exact ⟨⟨(hb_w 1576 (by decide +kernel)), by decide +kernel, by decide, (fun h => by cases h), hb_F9_ok false, hb_C9_ok, hb_I9_ok, hb_L9_ok⟩, fun ix sort y na ci h => hb_T9_ok ix sort y na ci h mX9_empty rfl rfl⟩
  · cases h
    exact ⟨⟨(hb_w 1580 (by decide +kernel)), by decide +kernel, by decide, (fun h => by cases h), hb_F9_ok false, hb_C9_ok, hb_I9_ok, hb_L9_ok⟩, fun ix sort y na ci h => hb_T9_ok ix sort y na ci h mX9_cutBy rfl rfl⟩
  · cases h
    exact ⟨⟨(hb_w 1584 (by decide +kernel)), by decide +kernel, by decide, (fun h => by cases h), hb_F9_ok false, hb_C9_ok, hb_I9_ok, hb_L9_ok⟩, fun ix sort y na ci h => hb_T9_ok ix sort y na ci h mX9_addCut rfl rfl⟩
  · cases h
    exact ⟨⟨(hb_w 1590 (by decide +kernel)), by decide +kernel, by decide, (fun h => by cases h), hb_F9_ok false, hb_C9_ok, hb_I9_ok, hb_L9_ok⟩, fun ix sort y na ci h => hb_T9_ok ix sort y na ci h mX9_begin rfl rfl⟩
  · cases h
    exact ⟨⟨(hb_w 1595 (by decide +kernel)), by decide +kernel, by decide, (fun h => by cases h), hb_F9_ok false, hb_C9_ok, hb_I9_ok, hb_L9_ok⟩, fun ix sort y na ci h => hb_T9_ok ix sort y na ci h mX9_toNextCell rfl rfl⟩
  · cases h
    exact ⟨⟨(hb_w 1600 (by decide +kernel)), by decide +kernel, by decide, (fun h => by cases h), hb_F9_ok false, hb_C9_ok, hb_I9_ok, hb_L9_ok⟩, fun ix sort y na ci h => hb_T9_ok ix sort y na ci h mX9_goToSide rfl rfl⟩
  · cases h
    exact ⟨⟨(hb_w 1604 (by decide +kernel)), by decide +kernel, by decide, (fun h => by cases h), hb_F9_ok false, hb_C9_ok, hb_I9_ok, hb_L9_ok⟩, fun ix sort y na ci h => hb_T9_ok ix sort y na ci h mX9_isTakenBy rfl rfl⟩
  · cases h
    exact ⟨⟨(hb_w 1608 (by decide +kernel)), by decide +kernel, by decide, (fun h => by cases h), hb_F9_ok false, hb_C9_ok, hb_I9_ok, hb_L9_ok⟩, fun ix sort y na ci h => hb_T9_ok ix sort y na ci h mX9_holds rfl rfl⟩
  · cases h
theorem hb_M10_ok : ∀ (j : Nat) (M : ab_MI), hb_M10 j = some M → ab_OKm hb_G hb_TB M ∧ ab_OKc hb_G hb_TB M := by
  intro j M h
  unfold hb_M10 at h
  split at h
  · cases h
    exact ⟨⟨(hb_w 836 (by decide +kernel)), by decide +kernel, by decide, fun _ => rfl, hb_F10_ok true, hb_C10_ok, hb_I10_ok, hb_L10_ok⟩, fun ix sort y na ci h => hb_T10_ok ix sort y na ci h mX10_init rfl rfl⟩
  · cases h
    exact ⟨⟨(hb_w 1694 (by decide +kernel)), by decide +kernel, by decide, (fun h => by cases h), hb_F10_ok false, hb_C10_ok, hb_I10_ok, hb_L10_ok⟩, fun ix sort y na ci h => hb_T10_ok ix sort y na ci h mX10_judge rfl rfl⟩
  · cases h
    exact ⟨⟨(hb_w 1698 (by decide +kernel)), by decide +kernel, by decide, (fun h => by cases h), hb_F10_ok false, hb_C10_ok, hb_I10_ok, hb_L10_ok⟩, fun ix sort y na ci h => hb_T10_ok ix sort y na ci h mX10_goToRow rfl rfl⟩
  · cases h
    exact ⟨⟨(hb_w 1733 (by decide +kernel)), by decide +kernel, by decide, (fun h => by cases h), hb_F10_ok false, hb_C10_ok, hb_I10_ok, hb_L10_ok⟩, fun ix sort y na ci h => hb_T10_ok ix sort y na ci h mX10_keepKinds rfl rfl⟩
  · cases h
    exact ⟨⟨(hb_w 1702 (by decide +kernel)), by decide +kernel, by decide, (fun h => by cases h), hb_F10_ok false, hb_C10_ok, hb_I10_ok, hb_L10_ok⟩, fun ix sort y na ci h => hb_T10_ok ix sort y na ci h mX10_gatherFitting rfl rfl⟩
  · cases h
    exact ⟨⟨(hb_w 1718 (by decide +kernel)), by decide +kernel, by decide, (fun h => by cases h), hb_F10_ok false, hb_C10_ok, hb_I10_ok, hb_L10_ok⟩, fun ix sort y na ci h => hb_T10_ok ix sort y na ci h mX10_judgeRow rfl rfl⟩
  · cases h
    exact ⟨⟨(hb_w 1728 (by decide +kernel)), by decide +kernel, by decide, (fun h => by cases h), hb_F10_ok false, hb_C10_ok, hb_I10_ok, hb_L10_ok⟩, fun ix sort y na ci h => hb_T10_ok ix sort y na ci h mX10_hasNearest rfl rfl⟩
  · cases h
theorem hb_M11_ok : ∀ (j : Nat) (M : ab_MI), hb_M11 j = some M → ab_OKm hb_G hb_TB M ∧ ab_OKc hb_G hb_TB M := by
  intro j M h
  unfold hb_M11 at h
  split at h
  · cases h
    exact ⟨⟨(hb_w 253 (by decide +kernel)), by decide +kernel, by decide, fun _ => rfl, hb_F11_ok true, hb_C11_ok, hb_I11_ok, hb_L11_ok⟩, fun ix sort y na ci h => hb_T11_ok ix sort y na ci h mX11_init rfl rfl⟩
  · cases h
    exact ⟨⟨(hb_w 1534 (by decide +kernel)), by decide +kernel, by decide, (fun h => by cases h), hb_F11_ok false, hb_C11_ok, hb_I11_ok, hb_L11_ok⟩, fun ix sort y na ci h => hb_T11_ok ix sort y na ci h mX11_isKind rfl rfl⟩
  · cases h
    exact ⟨⟨(hb_w 1186 (by decide +kernel)), by decide +kernel, by decide, (fun h => by cases h), hb_F11_ok false, hb_C11_ok, hb_I11_ok, hb_L11_ok⟩, fun ix sort y na ci h => hb_T11_ok ix sort y na ci h mX11_find rfl rfl⟩
  · cases h
    exact ⟨⟨(hb_w 1182 (by decide +kernel)), by decide +kernel, by decide, (fun h => by cases h), hb_F11_ok false, hb_C11_ok, hb_I11_ok, hb_L11_ok⟩, fun ix sort y na ci h => hb_T11_ok ix sort y na ci h mX11_isTold rfl rfl⟩
  · cases h
    exact ⟨⟨(hb_w 474 (by decide +kernel)), by decide +kernel, by decide, (fun h => by cases h), hb_F11_ok false, hb_C11_ok, hb_I11_ok, hb_L11_ok⟩, fun ix sort y na ci h => hb_T11_ok ix sort y na ci h mX11_isFull rfl rfl⟩
  · cases h
    exact ⟨⟨(hb_w 470 (by decide +kernel)), by decide +kernel, by decide, (fun h => by cases h), hb_F11_ok false, hb_C11_ok, hb_I11_ok, hb_L11_ok⟩, fun ix sort y na ci h => hb_T11_ok ix sort y na ci h mX11_addName rfl rfl⟩
  · cases h
    exact ⟨⟨(hb_w 1383 (by decide +kernel)), by decide +kernel, by decide, (fun h => by cases h), hb_F11_ok false, hb_C11_ok, hb_I11_ok, hb_L11_ok⟩, fun ix sort y na ci h => hb_T11_ok ix sort y na ci h mX11_beginAnew rfl rfl⟩
  · cases h
    exact ⟨⟨(hb_w 1159 (by decide +kernel)), by decide +kernel, by decide, (fun h => by cases h), hb_F11_ok false, hb_C11_ok, hb_I11_ok, hb_L11_ok⟩, fun ix sort y na ci h => hb_T11_ok ix sort y na ci h mX11_keep rfl rfl⟩
  · cases h
    exact ⟨⟨(hb_w 1363 (by decide +kernel)), by decide +kernel, by decide, (fun h => by cases h), hb_F11_ok false, hb_C11_ok, hb_I11_ok, hb_L11_ok⟩, fun ix sort y na ci h => hb_T11_ok ix sort y na ci h mX11_goBack rfl rfl⟩
  · cases h
    exact ⟨⟨(hb_w 537 (by decide +kernel)), by decide +kernel, by decide, (fun h => by cases h), hb_F11_ok false, hb_C11_ok, hb_I11_ok, hb_L11_ok⟩, fun ix sort y na ci h => hb_T11_ok ix sort y na ci h mX11_takeStock rfl rfl⟩
  · cases h
    exact ⟨⟨(hb_w 548 (by decide +kernel)), by decide +kernel, by decide, (fun h => by cases h), hb_F11_ok false, hb_C11_ok, hb_I11_ok, hb_L11_ok⟩, fun ix sort y na ci h => hb_T11_ok ix sort y na ci h mX11_takeStockOf rfl rfl⟩
  · cases h
    exact ⟨⟨(hb_w 1627 (by decide +kernel)), by decide +kernel, by decide, (fun h => by cases h), hb_F11_ok false, hb_C11_ok, hb_I11_ok, hb_L11_ok⟩, fun ix sort y na ci h => hb_T11_ok ix sort y na ci h mX11_methodsOf rfl rfl⟩
  · cases h
    exact ⟨⟨(hb_w 1706 (by decide +kernel)), by decide +kernel, by decide, (fun h => by cases h), hb_F11_ok false, hb_C11_ok, hb_I11_ok, hb_L11_ok⟩, fun ix sort y na ci h => hb_T11_ok ix sort y na ci h mX11_listFor rfl rfl⟩
  · cases h
    exact ⟨⟨(hb_w 1554 (by decide +kernel)), by decide +kernel, by decide, (fun h => by cases h), hb_F11_ok false, hb_C11_ok, hb_I11_ok, hb_L11_ok⟩, fun ix sort y na ci h => hb_T11_ok ix sort y na ci h mX11_fits rfl rfl⟩
  · cases h
theorem hb_M12_ok : ∀ (j : Nat) (M : ab_MI), hb_M12 j = some M → ab_OKm hb_G hb_TB M ∧ ab_OKc hb_G hb_TB M := by
  intro j M h
  unfold hb_M12 at h
  split at h
  · cases h
    exact ⟨⟨(hb_w 245 (by decide +kernel)), by decide +kernel, by decide, fun _ => rfl, hb_F12_ok true, hb_C12_ok, hb_I12_ok, hb_L12_ok⟩, fun ix sort y na ci h => hb_T12_ok ix sort y na ci h mX12_init rfl rfl⟩
  · cases h
    exact ⟨⟨(hb_w 1396 (by decide +kernel)), by decide +kernel, by decide, (fun h => by cases h), hb_F12_ok false, hb_C12_ok, hb_I12_ok, hb_L12_ok⟩, fun ix sort y na ci h => hb_T12_ok ix sort y na ci h mX12_feed rfl rfl⟩
  · cases h
    exact ⟨⟨(hb_w 1476 (by decide +kernel)), by decide +kernel, by decide, (fun h => by cases h), hb_F12_ok false, hb_C12_ok, hb_I12_ok, hb_L12_ok⟩, fun ix sort y na ci h => hb_T12_ok ix sort y na ci h mX12_putOnTape rfl rfl⟩
  · cases h
    exact ⟨⟨(hb_w 1484 (by decide +kernel)), by decide +kernel, by decide, (fun h => by cases h), hb_F12_ok false, hb_C12_ok, hb_I12_ok, hb_L12_ok⟩, fun ix sort y na ci h => hb_T12_ok ix sort y na ci h mX12_end rfl rfl⟩
  · cases h
    exact ⟨⟨(hb_w 1049 (by decide +kernel)), by decide +kernel, by decide, (fun h => by cases h), hb_F12_ok false, hb_C12_ok, hb_I12_ok, hb_L12_ok⟩, fun ix sort y na ci h => hb_T12_ok ix sort y na ci h mX12_tell rfl rfl⟩
  · cases h
    exact ⟨⟨(hb_w 1371 (by decide +kernel)), by decide +kernel, by decide, (fun h => by cases h), hb_F12_ok false, hb_C12_ok, hb_I12_ok, hb_L12_ok⟩, fun ix sort y na ci h => hb_T12_ok ix sort y na ci h mX12_program rfl rfl⟩
  · cases h
    exact ⟨⟨(hb_w 1379 (by decide +kernel)), by decide +kernel, by decide, (fun h => by cases h), hb_F12_ok false, hb_C12_ok, hb_I12_ok, hb_L12_ok⟩, fun ix sort y na ci h => hb_T12_ok ix sort y na ci h mX12_clear rfl rfl⟩
  · cases h
    exact ⟨⟨(hb_w 1506 (by decide +kernel)), by decide +kernel, by decide, (fun h => by cases h), hb_F12_ok false, hb_C12_ok, hb_I12_ok, hb_L12_ok⟩, fun ix sort y na ci h => hb_T12_ok ix sort y na ci h mX12_drop rfl rfl⟩
  · cases h
    exact ⟨⟨(hb_w 1515 (by decide +kernel)), by decide +kernel, by decide, (fun h => by cases h), hb_F12_ok false, hb_C12_ok, hb_I12_ok, hb_L12_ok⟩, fun ix sort y na ci h => hb_T12_ok ix sort y na ci h mX12_set rfl rfl⟩
  · cases h
    exact ⟨⟨(hb_w 1523 (by decide +kernel)), by decide +kernel, by decide, (fun h => by cases h), hb_F12_ok false, hb_C12_ok, hb_I12_ok, hb_L12_ok⟩, fun ix sort y na ci h => hb_T12_ok ix sort y na ci h mX12_count rfl rfl⟩
  · cases h
    exact ⟨⟨(hb_w 1530 (by decide +kernel)), by decide +kernel, by decide, (fun h => by cases h), hb_F12_ok false, hb_C12_ok, hb_I12_ok, hb_L12_ok⟩, fun ix sort y na ci h => hb_T12_ok ix sort y na ci h mX12_below rfl rfl⟩
  · cases h
    exact ⟨⟨(hb_w 1542 (by decide +kernel)), by decide +kernel, by decide, (fun h => by cases h), hb_F12_ok false, hb_C12_ok, hb_I12_ok, hb_L12_ok⟩, fun ix sort y na ci h => hb_T12_ok ix sort y na ci h mX12_row rfl rfl⟩
  · cases h
    exact ⟨⟨(hb_w 1550 (by decide +kernel)), by decide +kernel, by decide, (fun h => by cases h), hb_F12_ok false, hb_C12_ok, hb_I12_ok, hb_L12_ok⟩, fun ix sort y na ci h => hb_T12_ok ix sort y na ci h mX12_nearer rfl rfl⟩
  · cases h
    exact ⟨⟨(hb_w 1623 (by decide +kernel)), by decide +kernel, by decide, (fun h => by cases h), hb_F12_ok false, hb_C12_ok, hb_I12_ok, hb_L12_ok⟩, fun ix sort y na ci h => hb_T12_ok ix sort y na ci h mX12_call rfl rfl⟩
  · cases h
    exact ⟨⟨(hb_w 1741 (by decide +kernel)), by decide +kernel, by decide, (fun h => by cases h), hb_F12_ok false, hb_C12_ok, hb_I12_ok, hb_L12_ok⟩, fun ix sort y na ci h => hb_T12_ok ix sort y na ci h mX12_run rfl rfl⟩
  · cases h
    exact ⟨⟨(hb_w 1926 (by decide +kernel)), by decide +kernel, by decide, (fun h => by cases h), hb_F12_ok false, hb_C12_ok, hb_I12_ok, hb_L12_ok⟩, fun ix sort y na ci h => hb_T12_ok ix sort y na ci h mX12_told rfl rfl⟩
  · cases h
    exact ⟨⟨(hb_w 1934 (by decide +kernel)), by decide +kernel, by decide, (fun h => by cases h), hb_F12_ok false, hb_C12_ok, hb_I12_ok, hb_L12_ok⟩, fun ix sort y na ci h => hb_T12_ok ix sort y na ci h mX12_shown rfl rfl⟩
  · cases h
    exact ⟨⟨(hb_w 1941 (by decide +kernel)), by decide +kernel, by decide, (fun h => by cases h), hb_F12_ok false, hb_C12_ok, hb_I12_ok, hb_L12_ok⟩, fun ix sort y na ci h => hb_T12_ok ix sort y na ci h mX12_ran rfl rfl⟩
  · cases h
    exact ⟨⟨(hb_w 1949 (by decide +kernel)), by decide +kernel, by decide, (fun h => by cases h), hb_F12_ok false, hb_C12_ok, hb_I12_ok, hb_L12_ok⟩, fun ix sort y na ci h => hb_T12_ok ix sort y na ci h mX12_word rfl rfl⟩
  · cases h
    exact ⟨⟨(hb_w 1953 (by decide +kernel)), by decide +kernel, by decide, (fun h => by cases h), hb_F12_ok false, hb_C12_ok, hb_I12_ok, hb_L12_ok⟩, fun ix sort y na ci h => hb_T12_ok ix sort y na ci h mX12_byteOfResult rfl rfl⟩
  · cases h
theorem hb_M13_ok : ∀ (j : Nat) (M : ab_MI), hb_M13 j = some M → ab_OKm hb_G hb_TB M ∧ ab_OKc hb_G hb_TB M := by
  intro j M h
  unfold hb_M13 at h
  split at h
  · cases h
    exact ⟨⟨(hb_w 2056 (by decide +kernel)), by decide +kernel, by decide, fun _ => rfl, hb_F13_ok true, hb_C13_ok, hb_I13_ok, hb_L13_ok⟩, fun ix sort y na ci h => hb_T13_ok ix sort y na ci h mX13_init rfl rfl⟩
  · cases h
theorem hb_M14_ok : ∀ (j : Nat) (M : ab_MI), hb_M14 j = some M → ab_OKm hb_G hb_TB M ∧ ab_OKc hb_G hb_TB M := by
  intro j M h
  unfold hb_M14 at h
  split at h
  · cases h
    exact ⟨⟨(hb_w 2169 (by decide +kernel)), by decide +kernel, by decide, fun _ => rfl, hb_F14_ok true, hb_C14_ok, hb_I14_ok, hb_L14_ok⟩, fun ix sort y na ci h => hb_T14_ok ix sort y na ci h mX14_init rfl rfl⟩
  · cases h
theorem hb_M15_ok : ∀ (j : Nat) (M : ab_MI), hb_M15 j = some M → ab_OKm hb_G hb_TB M ∧ ab_OKc hb_G hb_TB M := by
  intro j M h
  unfold hb_M15 at h
  split at h
  · cases h
    exact ⟨⟨(hb_w 2161 (by decide +kernel)), by decide +kernel, by decide, fun _ => rfl, hb_F15_ok true, hb_C15_ok, hb_I15_ok, hb_L15_ok⟩, fun ix sort y na ci h => hb_T15_ok ix sort y na ci h mX15_init rfl rfl⟩
  · cases h
theorem hb_M16_ok : ∀ (j : Nat) (M : ab_MI), hb_M16 j = some M → ab_OKm hb_G hb_TB M ∧ ab_OKc hb_G hb_TB M := by
  intro j M h
  unfold hb_M16 at h
  split at h
  · cases h
    exact ⟨⟨(hb_w 2138 (by decide +kernel)), by decide +kernel, by decide, fun _ => rfl, hb_F16_ok true, hb_C16_ok, hb_I16_ok, hb_L16_ok⟩, fun ix sort y na ci h => hb_T16_ok ix sort y na ci h mX16_init rfl rfl⟩
  · cases h
theorem hb_M17_ok : ∀ (j : Nat) (M : ab_MI), hb_M17 j = some M → ab_OKm hb_G hb_TB M ∧ ab_OKc hb_G hb_TB M := by
  intro j M h
  unfold hb_M17 at h
  split at h
  · cases h
    exact ⟨⟨(hb_w 2014 (by decide +kernel)), by decide +kernel, by decide, fun _ => rfl, hb_F17_ok true, hb_C17_ok, hb_I17_ok, hb_L17_ok⟩, fun ix sort y na ci h => hb_T17_ok ix sort y na ci h mX17_init rfl rfl⟩
  · cases h
    exact ⟨⟨(hb_w 2228 (by decide +kernel)), by decide +kernel, by decide, (fun h => by cases h), hb_F17_ok false, hb_C17_ok, hb_I17_ok, hb_L17_ok⟩, fun ix sort y na ci h => hb_T17_ok ix sort y na ci h mX17_place rfl rfl⟩
  · cases h
theorem hb_M18_ok : ∀ (j : Nat) (M : ab_MI), hb_M18 j = some M → ab_OKm hb_G hb_TB M ∧ ab_OKc hb_G hb_TB M := by
  intro j M h
  unfold hb_M18 at h
  split at h
  · cases h
    exact ⟨⟨(hb_w 2077 (by decide +kernel)), by decide +kernel, by decide, fun _ => rfl, hb_F18_ok true, hb_C18_ok, hb_I18_ok, hb_L18_ok⟩, fun ix sort y na ci h => hb_T18_ok ix sort y na ci h mX18_init rfl rfl⟩
  · cases h
    exact ⟨⟨(hb_w 3159 (by decide +kernel)), by decide +kernel, by decide, (fun h => by cases h), hb_F18_ok false, hb_C18_ok, hb_I18_ok, hb_L18_ok⟩, fun ix sort y na ci h => hb_T18_ok ix sort y na ci h mX18_asks rfl rfl⟩
  · cases h
theorem hb_M19_ok : ∀ (j : Nat) (M : ab_MI), hb_M19 j = some M → ab_OKm hb_G hb_TB M ∧ ab_OKc hb_G hb_TB M := by
  intro j M h
  unfold hb_M19 at h
  split at h
  · cases h
    exact ⟨⟨(hb_w 2020 (by decide +kernel)), by decide +kernel, by decide, fun _ => rfl, hb_F19_ok true, hb_C19_ok, hb_I19_ok, hb_L19_ok⟩, fun ix sort y na ci h => hb_T19_ok ix sort y na ci h mX19_init rfl rfl⟩
  · cases h
    exact ⟨⟨(hb_w 2749 (by decide +kernel)), by decide +kernel, by decide, (fun h => by cases h), hb_F19_ok false, hb_C19_ok, hb_I19_ok, hb_L19_ok⟩, fun ix sort y na ci h => hb_T19_ok ix sort y na ci h mX19_be rfl rfl⟩
  · cases h
    exact ⟨⟨(hb_w 2200 (by decide +kernel)), by decide +kernel, by decide, (fun h => by cases h), hb_F19_ok false, hb_C19_ok, hb_I19_ok, hb_L19_ok⟩, fun ix sort y na ci h => hb_T19_ok ix sort y na ci h mX19_be_ rfl rfl⟩
  · cases h
    exact ⟨⟨(hb_w 2733 (by decide +kernel)), by decide +kernel, by decide, (fun h => by cases h), hb_F19_ok false, hb_C19_ok, hb_I19_ok, hb_L19_ok⟩, fun ix sort y na ci h => hb_T19_ok ix sort y na ci h mX19_is rfl rfl⟩
  · cases h
theorem hb_M20_ok : ∀ (j : Nat) (M : ab_MI), hb_M20 j = some M → ab_OKm hb_G hb_TB M ∧ ab_OKc hb_G hb_TB M := by
  intro j M h
  unfold hb_M20 at h
  split at h
  · cases h
    exact ⟨⟨(hb_w 2810 (by decide +kernel)), by decide +kernel, by decide, fun _ => rfl, hb_F20_ok true, hb_C20_ok, hb_I20_ok, hb_L20_ok⟩, fun ix sort y na ci h => hb_T20_ok ix sort y na ci h mX20_init rfl rfl⟩
  · cases h
    exact ⟨⟨(hb_w 2943 (by decide +kernel)), by decide +kernel, by decide, (fun h => by cases h), hb_F20_ok false, hb_C20_ok, hb_I20_ok, hb_L20_ok⟩, fun ix sort y na ci h => hb_T20_ok ix sort y na ci h mX20_be rfl rfl⟩
  · cases h
theorem hb_M21_ok : ∀ (j : Nat) (M : ab_MI), hb_M21 j = some M → ab_OKm hb_G hb_TB M ∧ ab_OKc hb_G hb_TB M := by
  intro j M h
  unfold hb_M21 at h
  split at h
  · cases h
    exact ⟨⟨(hb_w 1972 (by decide +kernel)), by decide +kernel, by decide, fun _ => rfl, hb_F21_ok true, hb_C21_ok, hb_I21_ok, hb_L21_ok⟩, fun ix sort y na ci h => hb_T21_ok ix sort y na ci h mX21_init rfl rfl⟩
  · cases h
    exact ⟨⟨(hb_w 2801 (by decide +kernel)), by decide +kernel, by decide, (fun h => by cases h), hb_F21_ok false, hb_C21_ok, hb_I21_ok, hb_L21_ok⟩, fun ix sort y na ci h => hb_T21_ok ix sort y na ci h mX21_get rfl rfl⟩
  · cases h
theorem hb_M22_ok : ∀ (j : Nat) (M : ab_MI), hb_M22 j = some M → ab_OKm hb_G hb_TB M ∧ ab_OKc hb_G hb_TB M := by
  intro j M h
  unfold hb_M22 at h
  split at h
  · cases h
    exact ⟨⟨(hb_w 2710 (by decide +kernel)), by decide +kernel, by decide, fun _ => rfl, hb_F22_ok true, hb_C22_ok, hb_I22_ok, hb_L22_ok⟩, fun ix sort y na ci h => hb_T22_ok ix sort y na ci h mX22_init rfl rfl⟩
  · cases h
theorem hb_M23_ok : ∀ (j : Nat) (M : ab_MI), hb_M23 j = some M → ab_OKm hb_G hb_TB M ∧ ab_OKc hb_G hb_TB M := by
  intro j M h
  unfold hb_M23 at h
  split at h
  · cases h
    exact ⟨⟨(hb_w 2729 (by decide +kernel)), by decide +kernel, by decide, (fun h => by cases h), hb_F23_ok false, hb_C23_ok, hb_I23_ok, hb_L23_ok⟩, fun ix sort y na ci h => hb_T23_ok ix sort y na ci h mX23_isName rfl rfl⟩
  · cases h
    exact ⟨⟨(hb_w 2777 (by decide +kernel)), by decide +kernel, by decide, (fun h => by cases h), hb_F23_ok false, hb_C23_ok, hb_I23_ok, hb_L23_ok⟩, fun ix sort y na ci h => hb_T23_ok ix sort y na ci h mX23_isSame rfl rfl⟩
  · cases h
    exact ⟨⟨(hb_w 2725 (by decide +kernel)), by decide +kernel, by decide, (fun h => by cases h), hb_F23_ok false, hb_C23_ok, hb_I23_ok, hb_L23_ok⟩, fun ix sort y na ci h => hb_T23_ok ix sort y na ci h mX23_kindNamed rfl rfl⟩
  · cases h
    exact ⟨⟨(hb_w 2737 (by decide +kernel)), by decide +kernel, by decide, (fun h => by cases h), hb_F23_ok false, hb_C23_ok, hb_I23_ok, hb_L23_ok⟩, fun ix sort y na ci h => hb_T23_ok ix sort y na ci h mX23_callNamed rfl rfl⟩
  · cases h
    exact ⟨⟨(hb_w 2741 (by decide +kernel)), by decide +kernel, by decide, (fun h => by cases h), hb_F23_ok false, hb_C23_ok, hb_I23_ok, hb_L23_ok⟩, fun ix sort y na ci h => hb_T23_ok ix sort y na ci h mX23_layerNamed rfl rfl⟩
  · cases h
    exact ⟨⟨(hb_w 2721 (by decide +kernel)), by decide +kernel, by decide, (fun h => by cases h), hb_F23_ok false, hb_C23_ok, hb_I23_ok, hb_L23_ok⟩, fun ix sort y na ci h => hb_T23_ok ix sort y na ci h mX23_isTold rfl rfl⟩
  · cases h
    exact ⟨⟨(hb_w 2224 (by decide +kernel)), by decide +kernel, by decide, (fun h => by cases h), hb_F23_ok false, hb_C23_ok, hb_I23_ok, hb_L23_ok⟩, fun ix sort y na ci h => hb_T23_ok ix sort y na ci h mX23_isBelow rfl rfl⟩
  · cases h
    exact ⟨⟨(hb_w 2206 (by decide +kernel)), by decide +kernel, by decide, (fun h => by cases h), hb_F23_ok false, hb_C23_ok, hb_I23_ok, hb_L23_ok⟩, fun ix sort y na ci h => hb_T23_ok ix sort y na ci h mX23_makeRows rfl rfl⟩
  · cases h
    exact ⟨⟨(hb_w 2214 (by decide +kernel)), by decide +kernel, by decide, (fun h => by cases h), hb_F23_ok false, hb_C23_ok, hb_I23_ok, hb_L23_ok⟩, fun ix sort y na ci h => hb_T23_ok ix sort y na ci h mX23_isFirst rfl rfl⟩
  · cases h
    exact ⟨⟨(hb_w 2210 (by decide +kernel)), by decide +kernel, by decide, (fun h => by cases h), hb_F23_ok false, hb_C23_ok, hb_I23_ok, hb_L23_ok⟩, fun ix sort y na ci h => hb_T23_ok ix sort y na ci h mX23_joined rfl rfl⟩
  · cases h
    exact ⟨⟨(hb_w 2618 (by decide +kernel)), by decide +kernel, by decide, (fun h => by cases h), hb_F23_ok false, hb_C23_ok, hb_I23_ok, hb_L23_ok⟩, fun ix sort y na ci h => hb_T23_ok ix sort y na ci h mX23_isLetter rfl rfl⟩
  · cases h
    exact ⟨⟨(hb_w 2621 (by decide +kernel)), by decide +kernel, by decide, (fun h => by cases h), hb_F23_ok false, hb_C23_ok, hb_I23_ok, hb_L23_ok⟩, fun ix sort y na ci h => hb_T23_ok ix sort y na ci h mX23_isDigit rfl rfl⟩
  · cases h
    exact ⟨⟨(hb_w 2630 (by decide +kernel)), by decide +kernel, by decide, (fun h => by cases h), hb_F23_ok false, hb_C23_ok, hb_I23_ok, hb_L23_ok⟩, fun ix sort y na ci h => hb_T23_ok ix sort y na ci h mX23_isHere rfl rfl⟩
  · cases h
    exact ⟨⟨(hb_w 2625 (by decide +kernel)), by decide +kernel, by decide, (fun h => by cases h), hb_F23_ok false, hb_C23_ok, hb_I23_ok, hb_L23_ok⟩, fun ix sort y na ci h => hb_T23_ok ix sort y na ci h mX23_word rfl rfl⟩
  · cases h
    exact ⟨⟨(hb_w 2615 (by decide +kernel)), by decide +kernel, by decide, (fun h => by cases h), hb_F23_ok false, hb_C23_ok, hb_I23_ok, hb_L23_ok⟩, fun ix sort y na ci h => hb_T23_ok ix sort y na ci h mX23_next rfl rfl⟩
  · cases h
    exact ⟨⟨(hb_w 2699 (by decide +kernel)), by decide +kernel, by decide, (fun h => by cases h), hb_F23_ok false, hb_C23_ok, hb_I23_ok, hb_L23_ok⟩, fun ix sort y na ci h => hb_T23_ok ix sort y na ci h mX23_no rfl rfl⟩
  · cases h
    exact ⟨⟨(hb_w 2753 (by decide +kernel)), by decide +kernel, by decide, (fun h => by cases h), hb_F23_ok false, hb_C23_ok, hb_I23_ok, hb_L23_ok⟩, fun ix sort y na ci h => hb_T23_ok ix sort y na ci h mX23_is rfl rfl⟩
  · cases h
    exact ⟨⟨(hb_w 2679 (by decide +kernel)), by decide +kernel, by decide, (fun h => by cases h), hb_F23_ok false, hb_C23_ok, hb_I23_ok, hb_L23_ok⟩, fun ix sort y na ci h => hb_T23_ok ix sort y na ci h mX23_is_ rfl rfl⟩
  · cases h
    exact ⟨⟨(hb_w 2757 (by decide +kernel)), by decide +kernel, by decide, (fun h => by cases h), hb_F23_ok false, hb_C23_ok, hb_I23_ok, hb_L23_ok⟩, fun ix sort y na ci h => hb_T23_ok ix sort y na ci h mX23_want rfl rfl⟩
  · cases h
    exact ⟨⟨(hb_w 2975 (by decide +kernel)), by decide +kernel, by decide, (fun h => by cases h), hb_F23_ok false, hb_C23_ok, hb_I23_ok, hb_L23_ok⟩, fun ix sort y na ci h => hb_T23_ok ix sort y na ci h mX23_want_ rfl rfl⟩
  · cases h
    exact ⟨⟨(hb_w 2675 (by decide +kernel)), by decide +kernel, by decide, (fun h => by cases h), hb_F23_ok false, hb_C23_ok, hb_I23_ok, hb_L23_ok⟩, fun ix sort y na ci h => hb_T23_ok ix sort y na ci h mX23_skip rfl rfl⟩
  · cases h
    exact ⟨⟨(hb_w 2695 (by decide +kernel)), by decide +kernel, by decide, (fun h => by cases h), hb_F23_ok false, hb_C23_ok, hb_I23_ok, hb_L23_ok⟩, fun ix sort y na ci h => hb_T23_ok ix sort y na ci h mX23_name rfl rfl⟩
  · cases h
    exact ⟨⟨(hb_w 2745 (by decide +kernel)), by decide +kernel, by decide, (fun h => by cases h), hb_F23_ok false, hb_C23_ok, hb_I23_ok, hb_L23_ok⟩, fun ix sort y na ci h => hb_T23_ok ix sort y na ci h mX23_breaks rfl rfl⟩
  · cases h
    exact ⟨⟨(hb_w 2797 (by decide +kernel)), by decide +kernel, by decide, (fun h => by cases h), hb_F23_ok false, hb_C23_ok, hb_I23_ok, hb_L23_ok⟩, fun ix sort y na ci h => hb_T23_ok ix sort y na ci h mX23_into rfl rfl⟩
  · cases h
    exact ⟨⟨(hb_w 2971 (by decide +kernel)), by decide +kernel, by decide, (fun h => by cases h), hb_F23_ok false, hb_C23_ok, hb_I23_ok, hb_L23_ok⟩, fun ix sort y na ci h => hb_T23_ok ix sort y na ci h mX23_counted rfl rfl⟩
  · cases h
    exact ⟨⟨(hb_w 2607 (by decide +kernel)), by decide +kernel, by decide, (fun h => by cases h), hb_F23_ok false, hb_C23_ok, hb_I23_ok, hb_L23_ok⟩, fun ix sort y na ci h => hb_T23_ok ix sort y na ci h mX23_readText rfl rfl⟩
  · cases h
    exact ⟨⟨(hb_w 2611 (by decide +kernel)), by decide +kernel, by decide, (fun h => by cases h), hb_F23_ok false, hb_C23_ok, hb_I23_ok, hb_L23_ok⟩, fun ix sort y na ci h => hb_T23_ok ix sort y na ci h mX23_start rfl rfl⟩
  · cases h
    exact ⟨⟨(hb_w 2691 (by decide +kernel)), by decide +kernel, by decide, (fun h => by cases h), hb_F23_ok false, hb_C23_ok, hb_I23_ok, hb_L23_ok⟩, fun ix sort y na ci h => hb_T23_ok ix sort y na ci h mX23_kind rfl rfl⟩
  · cases h
    exact ⟨⟨(hb_w 2761 (by decide +kernel)), by decide +kernel, by decide, (fun h => by cases h), hb_F23_ok false, hb_C23_ok, hb_I23_ok, hb_L23_ok⟩, fun ix sort y na ci h => hb_T23_ok ix sort y na ci h mX23_call rfl rfl⟩
  · cases h
    exact ⟨⟨(hb_w 2765 (by decide +kernel)), by decide +kernel, by decide, (fun h => by cases h), hb_F23_ok false, hb_C23_ok, hb_I23_ok, hb_L23_ok⟩, fun ix sort y na ci h => hb_T23_ok ix sort y na ci h mX23_layer rfl rfl⟩
  · cases h
    exact ⟨⟨(hb_w 2769 (by decide +kernel)), by decide +kernel, by decide, (fun h => by cases h), hb_F23_ok false, hb_C23_ok, hb_I23_ok, hb_L23_ok⟩, fun ix sort y na ci h => hb_T23_ok ix sort y na ci h mX23_method rfl rfl⟩
  · cases h
    exact ⟨⟨(hb_w 2773 (by decide +kernel)), by decide +kernel, by decide, (fun h => by cases h), hb_F23_ok false, hb_C23_ok, hb_I23_ok, hb_L23_ok⟩, fun ix sort y na ci h => hb_T23_ok ix sort y na ci h mX23_specs rfl rfl⟩
  · cases h
    exact ⟨⟨(hb_w 2781 (by decide +kernel)), by decide +kernel, by decide, (fun h => by cases h), hb_F23_ok false, hb_C23_ok, hb_I23_ok, hb_L23_ok⟩, fun ix sort y na ci h => hb_T23_ok ix sort y na ci h mX23_signed rfl rfl⟩
  · cases h
    exact ⟨⟨(hb_w 3003 (by decide +kernel)), by decide +kernel, by decide, (fun h => by cases h), hb_F23_ok false, hb_C23_ok, hb_I23_ok, hb_L23_ok⟩, fun ix sort y na ci h => hb_T23_ok ix sort y na ci h mX23_isThere rfl rfl⟩
  · cases h
    exact ⟨⟨(hb_w 2785 (by decide +kernel)), by decide +kernel, by decide, (fun h => by cases h), hb_F23_ok false, hb_C23_ok, hb_I23_ok, hb_L23_ok⟩, fun ix sort y na ci h => hb_T23_ok ix sort y na ci h mX23_test rfl rfl⟩
  · cases h
    exact ⟨⟨(hb_w 2963 (by decide +kernel)), by decide +kernel, by decide, (fun h => by cases h), hb_F23_ok false, hb_C23_ok, hb_I23_ok, hb_L23_ok⟩, fun ix sort y na ci h => hb_T23_ok ix sort y na ci h mX23_two rfl rfl⟩
  · cases h
    exact ⟨⟨(hb_w 2789 (by decide +kernel)), by decide +kernel, by decide, (fun h => by cases h), hb_F23_ok false, hb_C23_ok, hb_I23_ok, hb_L23_ok⟩, fun ix sort y na ci h => hb_T23_ok ix sort y na ci h mX23_conjunction rfl rfl⟩
  · cases h
    exact ⟨⟨(hb_w 2951 (by decide +kernel)), by decide +kernel, by decide, (fun h => by cases h), hb_F23_ok false, hb_C23_ok, hb_I23_ok, hb_L23_ok⟩, fun ix sort y na ci h => hb_T23_ok ix sort y na ci h mX23_spec rfl rfl⟩
  · cases h
    exact ⟨⟨(hb_w 2793 (by decide +kernel)), by decide +kernel, by decide, (fun h => by cases h), hb_F23_ok false, hb_C23_ok, hb_I23_ok, hb_L23_ok⟩, fun ix sort y na ci h => hb_T23_ok ix sort y na ci h mX23_single rfl rfl⟩
  · cases h
    exact ⟨⟨(hb_w 2947 (by decide +kernel)), by decide +kernel, by decide, (fun h => by cases h), hb_F23_ok false, hb_C23_ok, hb_I23_ok, hb_L23_ok⟩, fun ix sort y na ci h => hb_T23_ok ix sort y na ci h mX23_comparison rfl rfl⟩
  · cases h
    exact ⟨⟨(hb_w 2955 (by decide +kernel)), by decide +kernel, by decide, (fun h => by cases h), hb_F23_ok false, hb_C23_ok, hb_I23_ok, hb_L23_ok⟩, fun ix sort y na ci h => hb_T23_ok ix sort y na ci h mX23_counts rfl rfl⟩
  · cases h
    exact ⟨⟨(hb_w 2959 (by decide +kernel)), by decide +kernel, by decide, (fun h => by cases h), hb_F23_ok false, hb_C23_ok, hb_I23_ok, hb_L23_ok⟩, fun ix sort y na ci h => hb_T23_ok ix sort y na ci h mX23_behind rfl rfl⟩
  · cases h
    exact ⟨⟨(hb_w 2967 (by decide +kernel)), by decide +kernel, by decide, (fun h => by cases h), hb_F23_ok false, hb_C23_ok, hb_I23_ok, hb_L23_ok⟩, fun ix sort y na ci h => hb_T23_ok ix sort y na ci h mX23_e rfl rfl⟩
  · cases h
    exact ⟨⟨(hb_w 2979 (by decide +kernel)), by decide +kernel, by decide, (fun h => by cases h), hb_F23_ok false, hb_C23_ok, hb_I23_ok, hb_L23_ok⟩, fun ix sort y na ci h => hb_T23_ok ix sort y na ci h mX23_under rfl rfl⟩
  · cases h
    exact ⟨⟨(hb_w 2983 (by decide +kernel)), by decide +kernel, by decide, (fun h => by cases h), hb_F23_ok false, hb_C23_ok, hb_I23_ok, hb_L23_ok⟩, fun ix sort y na ci h => hb_T23_ok ix sort y na ci h mX23_compared rfl rfl⟩
  · cases h
    exact ⟨⟨(hb_w 2987 (by decide +kernel)), by decide +kernel, by decide, (fun h => by cases h), hb_F23_ok false, hb_C23_ok, hb_I23_ok, hb_L23_ok⟩, fun ix sort y na ci h => hb_T23_ok ix sort y na ci h mX23_chain rfl rfl⟩
  · cases h
    exact ⟨⟨(hb_w 2991 (by decide +kernel)), by decide +kernel, by decide, (fun h => by cases h), hb_F23_ok false, hb_C23_ok, hb_I23_ok, hb_L23_ok⟩, fun ix sort y na ci h => hb_T23_ok ix sort y na ci h mX23_p rfl rfl⟩
  · cases h
    exact ⟨⟨(hb_w 2995 (by decide +kernel)), by decide +kernel, by decide, (fun h => by cases h), hb_F23_ok false, hb_C23_ok, hb_I23_ok, hb_L23_ok⟩, fun ix sort y na ci h => hb_T23_ok ix sort y na ci h mX23_named rfl rfl⟩
  · cases h
    exact ⟨⟨(hb_w 2999 (by decide +kernel)), by decide +kernel, by decide, (fun h => by cases h), hb_F23_ok false, hb_C23_ok, hb_I23_ok, hb_L23_ok⟩, fun ix sort y na ci h => hb_T23_ok ix sort y na ci h mX23_arguments rfl rfl⟩
  · cases h
    exact ⟨⟨(hb_w 3155 (by decide +kernel)), by decide +kernel, by decide, (fun h => by cases h), hb_F23_ok false, hb_C23_ok, hb_I23_ok, hb_L23_ok⟩, fun ix sort y na ci h => hb_T23_ok ix sort y na ci h mX23_has rfl rfl⟩
  · cases h
    exact ⟨⟨(hb_w 2220 (by decide +kernel)), by decide +kernel, by decide, (fun h => by cases h), hb_F23_ok false, hb_C23_ok, hb_I23_ok, hb_L23_ok⟩, fun ix sort y na ci h => hb_T23_ok ix sort y na ci h mX23_rebuild rfl rfl⟩
  · cases h
    exact ⟨⟨(hb_w 3044 (by decide +kernel)), by decide +kernel, by decide, (fun h => by cases h), hb_F23_ok false, hb_C23_ok, hb_I23_ok, hb_L23_ok⟩, fun ix sort y na ci h => hb_T23_ok ix sort y na ci h mX23_fits rfl rfl⟩
  · cases h
    exact ⟨⟨(hb_w 3064 (by decide +kernel)), by decide +kernel, by decide, (fun h => by cases h), hb_F23_ok false, hb_C23_ok, hb_I23_ok, hb_L23_ok⟩, fun ix sort y na ci h => hb_T23_ok ix sort y na ci h mX23_atom rfl rfl⟩
  · cases h
    exact ⟨⟨(hb_w 3068 (by decide +kernel)), by decide +kernel, by decide, (fun h => by cases h), hb_F23_ok false, hb_C23_ok, hb_I23_ok, hb_L23_ok⟩, fun ix sort y na ci h => hb_T23_ok ix sort y na ci h mX23_atoms rfl rfl⟩
  · cases h
    exact ⟨⟨(hb_w 3060 (by decide +kernel)), by decide +kernel, by decide, (fun h => by cases h), hb_F23_ok false, hb_C23_ok, hb_I23_ok, hb_L23_ok⟩, fun ix sort y na ci h => hb_T23_ok ix sort y na ci h mX23_see rfl rfl⟩
  · cases h
    exact ⟨⟨(hb_w 3073 (by decide +kernel)), by decide +kernel, by decide, (fun h => by cases h), hb_F23_ok false, hb_C23_ok, hb_I23_ok, hb_L23_ok⟩, fun ix sort y na ci h => hb_T23_ok ix sort y na ci h mX23_explore rfl rfl⟩
  · cases h
    exact ⟨⟨(hb_w 3093 (by decide +kernel)), by decide +kernel, by decide, (fun h => by cases h), hb_F23_ok false, hb_C23_ok, hb_I23_ok, hb_L23_ok⟩, fun ix sort y na ci h => hb_T23_ok ix sort y na ci h mX23_bound rfl rfl⟩
  · cases h
    exact ⟨⟨(hb_w 3080 (by decide +kernel)), by decide +kernel, by decide, (fun h => by cases h), hb_F23_ok false, hb_C23_ok, hb_I23_ok, hb_L23_ok⟩, fun ix sort y na ci h => hb_T23_ok ix sort y na ci h mX23_both rfl rfl⟩
  · cases h
    exact ⟨⟨(hb_w 3087 (by decide +kernel)), by decide +kernel, by decide, (fun h => by cases h), hb_F23_ok false, hb_C23_ok, hb_I23_ok, hb_L23_ok⟩, fun ix sort y na ci h => hb_T23_ok ix sort y na ci h mX23_not rfl rfl⟩
  · cases h
    exact ⟨⟨(hb_w 3077 (by decide +kernel)), by decide +kernel, by decide, (fun h => by cases h), hb_F23_ok false, hb_C23_ok, hb_I23_ok, hb_L23_ok⟩, fun ix sort y na ci h => hb_T23_ok ix sort y na ci h mX23_takes rfl rfl⟩
  · cases h
    exact ⟨⟨(hb_w 3084 (by decide +kernel)), by decide +kernel, by decide, (fun h => by cases h), hb_F23_ok false, hb_C23_ok, hb_I23_ok, hb_L23_ok⟩, fun ix sort y na ci h => hb_T23_ok ix sort y na ci h mX23_holds rfl rfl⟩
  · cases h
    exact ⟨⟨(hb_w 2232 (by decide +kernel)), by decide +kernel, by decide, (fun h => by cases h), hb_F23_ok false, hb_C23_ok, hb_I23_ok, hb_L23_ok⟩, fun ix sort y na ci h => hb_T23_ok ix sort y na ci h mX23_forget rfl rfl⟩
  · cases h
    exact ⟨⟨(hb_w 3048 (by decide +kernel)), by decide +kernel, by decide, (fun h => by cases h), hb_F23_ok false, hb_C23_ok, hb_I23_ok, hb_L23_ok⟩, fun ix sort y na ci h => hb_T23_ok ix sort y na ci h mX23_nearer rfl rfl⟩
  · cases h
    exact ⟨⟨(hb_w 3052 (by decide +kernel)), by decide +kernel, by decide, (fun h => by cases h), hb_F23_ok false, hb_C23_ok, hb_I23_ok, hb_L23_ok⟩, fun ix sort y na ci h => hb_T23_ok ix sort y na ci h mX23_reckoned rfl rfl⟩
  · cases h
    exact ⟨⟨(hb_w 3056 (by decide +kernel)), by decide +kernel, by decide, (fun h => by cases h), hb_F23_ok false, hb_C23_ok, hb_I23_ok, hb_L23_ok⟩, fun ix sort y na ci h => hb_T23_ok ix sort y na ci h mX23_asksMore rfl rfl⟩
  · cases h
    exact ⟨⟨(hb_w 3106 (by decide +kernel)), by decide +kernel, by decide, (fun h => by cases h), hb_F23_ok false, hb_C23_ok, hb_I23_ok, hb_L23_ok⟩, fun ix sort y na ci h => hb_T23_ok ix sort y na ci h mX23_group rfl rfl⟩
  · cases h
    exact ⟨⟨(hb_w 3110 (by decide +kernel)), by decide +kernel, by decide, (fun h => by cases h), hb_F23_ok false, hb_C23_ok, hb_I23_ok, hb_L23_ok⟩, fun ix sort y na ci h => hb_T23_ok ix sort y na ci h mX23_isAlike rfl rfl⟩
  · cases h
    exact ⟨⟨(hb_w 3118 (by decide +kernel)), by decide +kernel, by decide, (fun h => by cases h), hb_F23_ok false, hb_C23_ok, hb_I23_ok, hb_L23_ok⟩, fun ix sort y na ci h => hb_T23_ok ix sort y na ci h mX23_isNew rfl rfl⟩
  · cases h
    exact ⟨⟨(hb_w 3114 (by decide +kernel)), by decide +kernel, by decide, (fun h => by cases h), hb_F23_ok false, hb_C23_ok, hb_I23_ok, hb_L23_ok⟩, fun ix sort y na ci h => hb_T23_ok ix sort y na ci h mX23_nothingIs rfl rfl⟩
  · cases h
    exact ⟨⟨(hb_w 3102 (by decide +kernel)), by decide +kernel, by decide, (fun h => by cases h), hb_F23_ok false, hb_C23_ok, hb_I23_ok, hb_L23_ok⟩, fun ix sort y na ci h => hb_T23_ok ix sort y na ci h mX23_lists rfl rfl⟩
  · cases h
    exact ⟨⟨(hb_w 3125 (by decide +kernel)), by decide +kernel, by decide, (fun h => by cases h), hb_F23_ok false, hb_C23_ok, hb_I23_ok, hb_L23_ok⟩, fun ix sort y na ci h => hb_T23_ok ix sort y na ci h mX23_cells rfl rfl⟩
  · cases h
    exact ⟨⟨(hb_w 3144 (by decide +kernel)), by decide +kernel, by decide, (fun h => by cases h), hb_F23_ok false, hb_C23_ok, hb_I23_ok, hb_L23_ok⟩, fun ix sort y na ci h => hb_T23_ok ix sort y na ci h mX23_place rfl rfl⟩
  · cases h
    exact ⟨⟨(hb_w 3133 (by decide +kernel)), by decide +kernel, by decide, (fun h => by cases h), hb_F23_ok false, hb_C23_ok, hb_I23_ok, hb_L23_ok⟩, fun ix sort y na ci h => hb_T23_ok ix sort y na ci h mX23_orderCount rfl rfl⟩
  · cases h
    exact ⟨⟨(hb_w 3141 (by decide +kernel)), by decide +kernel, by decide, (fun h => by cases h), hb_F23_ok false, hb_C23_ok, hb_I23_ok, hb_L23_ok⟩, fun ix sort y na ci h => hb_T23_ok ix sort y na ci h mX23_matter rfl rfl⟩
  · cases h
    exact ⟨⟨(hb_w 3137 (by decide +kernel)), by decide +kernel, by decide, (fun h => by cases h), hb_F23_ok false, hb_C23_ok, hb_I23_ok, hb_L23_ok⟩, fun ix sort y na ci h => hb_T23_ok ix sort y na ci h mX23_nodeCount rfl rfl⟩
  · cases h
    exact ⟨⟨(hb_w 3129 (by decide +kernel)), by decide +kernel, by decide, (fun h => by cases h), hb_F23_ok false, hb_C23_ok, hb_I23_ok, hb_L23_ok⟩, fun ix sort y na ci h => hb_T23_ok ix sort y na ci h mX23_order rfl rfl⟩
  · cases h
    exact ⟨⟨(hb_w 3228 (by decide +kernel)), by decide +kernel, by decide, (fun h => by cases h), hb_F23_ok false, hb_C23_ok, hb_I23_ok, hb_L23_ok⟩, fun ix sort y na ci h => hb_T23_ok ix sort y na ci h mX23_looks rfl rfl⟩
  · cases h
    exact ⟨⟨(hb_w 3208 (by decide +kernel)), by decide +kernel, by decide, (fun h => by cases h), hb_F23_ok false, hb_C23_ok, hb_I23_ok, hb_L23_ok⟩, fun ix sort y na ci h => hb_T23_ok ix sort y na ci h mX23_without rfl rfl⟩
  · cases h
    exact ⟨⟨(hb_w 3205 (by decide +kernel)), by decide +kernel, by decide, (fun h => by cases h), hb_F23_ok false, hb_C23_ok, hb_I23_ok, hb_L23_ok⟩, fun ix sort y na ci h => hb_T23_ok ix sort y na ci h mX23_with rfl rfl⟩
  · cases h
    exact ⟨⟨(hb_w 3239 (by decide +kernel)), by decide +kernel, by decide, (fun h => by cases h), hb_F23_ok false, hb_C23_ok, hb_I23_ok, hb_L23_ok⟩, fun ix sort y na ci h => hb_T23_ok ix sort y na ci h mX23_isOn rfl rfl⟩
  · cases h
    exact ⟨⟨(hb_w 3236 (by decide +kernel)), by decide +kernel, by decide, (fun h => by cases h), hb_F23_ok false, hb_C23_ok, hb_I23_ok, hb_L23_ok⟩, fun ix sort y na ci h => hb_T23_ok ix sort y na ci h mX23_applies rfl rfl⟩
  · cases h
    exact ⟨⟨(hb_w 3246 (by decide +kernel)), by decide +kernel, by decide, (fun h => by cases h), hb_F23_ok false, hb_C23_ok, hb_I23_ok, hb_L23_ok⟩, fun ix sort y na ci h => hb_T23_ok ix sort y na ci h mX23_term rfl rfl⟩
  · cases h
    exact ⟨⟨(hb_w 3243 (by decide +kernel)), by decide +kernel, by decide, (fun h => by cases h), hb_F23_ok false, hb_C23_ok, hb_I23_ok, hb_L23_ok⟩, fun ix sort y na ci h => hb_T23_ok ix sort y na ci h mX23_isTrue rfl rfl⟩
  · cases h
    exact ⟨⟨(hb_w 3178 (by decide +kernel)), by decide +kernel, by decide, (fun h => by cases h), hb_F23_ok false, hb_C23_ok, hb_I23_ok, hb_L23_ok⟩, fun ix sort y na ci h => hb_T23_ok ix sort y na ci h mX23_firstOf rfl rfl⟩
  · cases h
    exact ⟨⟨(hb_w 3250 (by decide +kernel)), by decide +kernel, by decide, (fun h => by cases h), hb_F23_ok false, hb_C23_ok, hb_I23_ok, hb_L23_ok⟩, fun ix sort y na ci h => hb_T23_ok ix sort y na ci h mX23_chooseRow rfl rfl⟩
  · cases h
    exact ⟨⟨(hb_w 3189 (by decide +kernel)), by decide +kernel, by decide, (fun h => by cases h), hb_F23_ok false, hb_C23_ok, hb_I23_ok, hb_L23_ok⟩, fun ix sort y na ci h => hb_T23_ok ix sort y na ci h mX23_value rfl rfl⟩
  · cases h
    exact ⟨⟨(hb_w 3212 (by decide +kernel)), by decide +kernel, by decide, (fun h => by cases h), hb_F23_ok false, hb_C23_ok, hb_I23_ok, hb_L23_ok⟩, fun ix sort y na ci h => hb_T23_ok ix sort y na ci h mX23_kindIn rfl rfl⟩
  · cases h
    exact ⟨⟨(hb_w 3220 (by decide +kernel)), by decide +kernel, by decide, (fun h => by cases h), hb_F23_ok false, hb_C23_ok, hb_I23_ok, hb_L23_ok⟩, fun ix sort y na ci h => hb_T23_ok ix sort y na ci h mX23_fault rfl rfl⟩
  · cases h
    exact ⟨⟨(hb_w 3202 (by decide +kernel)), by decide +kernel, by decide, (fun h => by cases h), hb_F23_ok false, hb_C23_ok, hb_I23_ok, hb_L23_ok⟩, fun ix sort y na ci h => hb_T23_ok ix sort y na ci h mX23_ends rfl rfl⟩
  · cases h
    exact ⟨⟨(hb_w 3198 (by decide +kernel)), by decide +kernel, by decide, (fun h => by cases h), hb_F23_ok false, hb_C23_ok, hb_I23_ok, hb_L23_ok⟩, fun ix sort y na ci h => hb_T23_ok ix sort y na ci h mX23_step rfl rfl⟩
  · cases h
    exact ⟨⟨(hb_w 3216 (by decide +kernel)), by decide +kernel, by decide, (fun h => by cases h), hb_F23_ok false, hb_C23_ok, hb_I23_ok, hb_L23_ok⟩, fun ix sort y na ci h => hb_T23_ok ix sort y na ci h mX23_chained rfl rfl⟩
  · cases h
    exact ⟨⟨(hb_w 3232 (by decide +kernel)), by decide +kernel, by decide, (fun h => by cases h), hb_F23_ok false, hb_C23_ok, hb_I23_ok, hb_L23_ok⟩, fun ix sort y na ci h => hb_T23_ok ix sort y na ci h mX23_choose rfl rfl⟩
  · cases h
    exact ⟨⟨(hb_w 3268 (by decide +kernel)), by decide +kernel, by decide, (fun h => by cases h), hb_F23_ok false, hb_C23_ok, hb_I23_ok, hb_L23_ok⟩, fun ix sort y na ci h => hb_T23_ok ix sort y na ci h mX23_further rfl rfl⟩
  · cases h
    exact ⟨⟨(hb_w 3259 (by decide +kernel)), by decide +kernel, by decide, (fun h => by cases h), hb_F23_ok false, hb_C23_ok, hb_I23_ok, hb_L23_ok⟩, fun ix sort y na ci h => hb_T23_ok ix sort y na ci h mX23_inside rfl rfl⟩
  · cases h
    exact ⟨⟨(hb_w 3263 (by decide +kernel)), by decide +kernel, by decide, (fun h => by cases h), hb_F23_ok false, hb_C23_ok, hb_I23_ok, hb_L23_ok⟩, fun ix sort y na ci h => hb_T23_ok ix sort y na ci h mX23_joined_ rfl rfl⟩
  · cases h
    exact ⟨⟨(hb_w 3148 (by decide +kernel)), by decide +kernel, by decide, (fun h => by cases h), hb_F23_ok false, hb_C23_ok, hb_I23_ok, hb_L23_ok⟩, fun ix sort y na ci h => hb_T23_ok ix sort y na ci h mX23_judge rfl rfl⟩
  · cases h
    exact ⟨⟨(hb_w 3152 (by decide +kernel)), by decide +kernel, by decide, (fun h => by cases h), hb_F23_ok false, hb_C23_ok, hb_I23_ok, hb_L23_ok⟩, fun ix sort y na ci h => hb_T23_ok ix sort y na ci h mX23_collect rfl rfl⟩
  · cases h
    exact ⟨⟨(hb_w 3163 (by decide +kernel)), by decide +kernel, by decide, (fun h => by cases h), hb_F23_ok false, hb_C23_ok, hb_I23_ok, hb_L23_ok⟩, fun ix sort y na ci h => hb_T23_ok ix sort y na ci h mX23_bad rfl rfl⟩
  · cases h
    exact ⟨⟨(hb_w 3167 (by decide +kernel)), by decide +kernel, by decide, (fun h => by cases h), hb_F23_ok false, hb_C23_ok, hb_I23_ok, hb_L23_ok⟩, fun ix sort y na ci h => hb_T23_ok ix sort y na ci h mX23_lookAt rfl rfl⟩
  · cases h
    exact ⟨⟨(hb_w 3170 (by decide +kernel)), by decide +kernel, by decide, (fun h => by cases h), hb_F23_ok false, hb_C23_ok, hb_I23_ok, hb_L23_ok⟩, fun ix sort y na ci h => hb_T23_ok ix sort y na ci h mX23_asksKinds rfl rfl⟩
  · cases h
    exact ⟨⟨(hb_w 3174 (by decide +kernel)), by decide +kernel, by decide, (fun h => by cases h), hb_F23_ok false, hb_C23_ok, hb_I23_ok, hb_L23_ok⟩, fun ix sort y na ci h => hb_T23_ok ix sort y na ci h mX23_isSeveral rfl rfl⟩
  · cases h
    exact ⟨⟨(hb_w 1958 (by decide +kernel)), by decide +kernel, by decide, fun _ => rfl, hb_F23_ok true, hb_C23_ok, hb_I23_ok, hb_L23_ok⟩, fun ix sort y na ci h => hb_T23_ok ix sort y na ci h mX23_init rfl rfl⟩
  · cases h
    exact ⟨⟨(hb_w 2191 (by decide +kernel)), by decide +kernel, by decide, (fun h => by cases h), hb_F23_ok false, hb_C23_ok, hb_I23_ok, hb_L23_ok⟩, fun ix sort y na ci h => hb_T23_ok ix sort y na ci h mX23_beginning rfl rfl⟩
  · cases h
    exact ⟨⟨(hb_w 2196 (by decide +kernel)), by decide +kernel, by decide, (fun h => by cases h), hb_F23_ok false, hb_C23_ok, hb_I23_ok, hb_L23_ok⟩, fun ix sort y na ci h => hb_T23_ok ix sort y na ci h mX23_tellKind rfl rfl⟩
  · cases h
    exact ⟨⟨(hb_w 2582 (by decide +kernel)), by decide +kernel, by decide, (fun h => by cases h), hb_F23_ok false, hb_C23_ok, hb_I23_ok, hb_L23_ok⟩, fun ix sort y na ci h => hb_T23_ok ix sort y na ci h mX23_thrown rfl rfl⟩
  · cases h
    exact ⟨⟨(hb_w 2590 (by decide +kernel)), by decide +kernel, by decide, (fun h => by cases h), hb_F23_ok false, hb_C23_ok, hb_I23_ok, hb_L23_ok⟩, fun ix sort y na ci h => hb_T23_ok ix sort y na ci h mX23_no_ rfl rfl⟩
  · cases h
    exact ⟨⟨(hb_w 2586 (by decide +kernel)), by decide +kernel, by decide, (fun h => by cases h), hb_F23_ok false, hb_C23_ok, hb_I23_ok, hb_L23_ok⟩, fun ix sort y na ci h => hb_T23_ok ix sort y na ci h mX23_feed rfl rfl⟩
  · cases h
    exact ⟨⟨(hb_w 2594 (by decide +kernel)), by decide +kernel, by decide, (fun h => by cases h), hb_F23_ok false, hb_C23_ok, hb_I23_ok, hb_L23_ok⟩, fun ix sort y na ci h => hb_T23_ok ix sort y na ci h mX23_word_ rfl rfl⟩
  · cases h
    exact ⟨⟨(hb_w 2598 (by decide +kernel)), by decide +kernel, by decide, (fun h => by cases h), hb_F23_ok false, hb_C23_ok, hb_I23_ok, hb_L23_ok⟩, fun ix sort y na ci h => hb_T23_ok ix sort y na ci h mX23_end rfl rfl⟩
  · cases h
    exact ⟨⟨(hb_w 3011 (by decide +kernel)), by decide +kernel, by decide, (fun h => by cases h), hb_F23_ok false, hb_C23_ok, hb_I23_ok, hb_L23_ok⟩, fun ix sort y na ci h => hb_T23_ok ix sort y na ci h mX23_clear rfl rfl⟩
  · cases h
    exact ⟨⟨(hb_w 3015 (by decide +kernel)), by decide +kernel, by decide, (fun h => by cases h), hb_F23_ok false, hb_C23_ok, hb_I23_ok, hb_L23_ok⟩, fun ix sort y na ci h => hb_T23_ok ix sort y na ci h mX23_drop rfl rfl⟩
  · cases h
    exact ⟨⟨(hb_w 3019 (by decide +kernel)), by decide +kernel, by decide, (fun h => by cases h), hb_F23_ok false, hb_C23_ok, hb_I23_ok, hb_L23_ok⟩, fun ix sort y na ci h => hb_T23_ok ix sort y na ci h mX23_set rfl rfl⟩
  · cases h
    exact ⟨⟨(hb_w 3024 (by decide +kernel)), by decide +kernel, by decide, (fun h => by cases h), hb_F23_ok false, hb_C23_ok, hb_I23_ok, hb_L23_ok⟩, fun ix sort y na ci h => hb_T23_ok ix sort y na ci h mX23_count rfl rfl⟩
  · cases h
    exact ⟨⟨(hb_w 3032 (by decide +kernel)), by decide +kernel, by decide, (fun h => by cases h), hb_F23_ok false, hb_C23_ok, hb_I23_ok, hb_L23_ok⟩, fun ix sort y na ci h => hb_T23_ok ix sort y na ci h mX23_isKind rfl rfl⟩
  · cases h
    exact ⟨⟨(hb_w 3028 (by decide +kernel)), by decide +kernel, by decide, (fun h => by cases h), hb_F23_ok false, hb_C23_ok, hb_I23_ok, hb_L23_ok⟩, fun ix sort y na ci h => hb_T23_ok ix sort y na ci h mX23_below rfl rfl⟩
  · cases h
    exact ⟨⟨(hb_w 3036 (by decide +kernel)), by decide +kernel, by decide, (fun h => by cases h), hb_F23_ok false, hb_C23_ok, hb_I23_ok, hb_L23_ok⟩, fun ix sort y na ci h => hb_T23_ok ix sort y na ci h mX23_row rfl rfl⟩
  · cases h
    exact ⟨⟨(hb_w 3040 (by decide +kernel)), by decide +kernel, by decide, (fun h => by cases h), hb_F23_ok false, hb_C23_ok, hb_I23_ok, hb_L23_ok⟩, fun ix sort y na ci h => hb_T23_ok ix sort y na ci h mX23_nearer_ rfl rfl⟩
  · cases h
    exact ⟨⟨(hb_w 3098 (by decide +kernel)), by decide +kernel, by decide, (fun h => by cases h), hb_F23_ok false, hb_C23_ok, hb_I23_ok, hb_L23_ok⟩, fun ix sort y na ci h => hb_T23_ok ix sort y na ci h mX23_call_ rfl rfl⟩
  · cases h
    exact ⟨⟨(hb_w 3182 (by decide +kernel)), by decide +kernel, by decide, (fun h => by cases h), hb_F23_ok false, hb_C23_ok, hb_I23_ok, hb_L23_ok⟩, fun ix sort y na ci h => hb_T23_ok ix sort y na ci h mX23_run rfl rfl⟩
  · cases h
    exact ⟨⟨(hb_w 3272 (by decide +kernel)), by decide +kernel, by decide, (fun h => by cases h), hb_F23_ok false, hb_C23_ok, hb_I23_ok, hb_L23_ok⟩, fun ix sort y na ci h => hb_T23_ok ix sort y na ci h mX23_told rfl rfl⟩
  · cases h
    exact ⟨⟨(hb_w 3276 (by decide +kernel)), by decide +kernel, by decide, (fun h => by cases h), hb_F23_ok false, hb_C23_ok, hb_I23_ok, hb_L23_ok⟩, fun ix sort y na ci h => hb_T23_ok ix sort y na ci h mX23_shown rfl rfl⟩
  · cases h
    exact ⟨⟨(hb_w 3280 (by decide +kernel)), by decide +kernel, by decide, (fun h => by cases h), hb_F23_ok false, hb_C23_ok, hb_I23_ok, hb_L23_ok⟩, fun ix sort y na ci h => hb_T23_ok ix sort y na ci h mX23_ran rfl rfl⟩
  · cases h
    exact ⟨⟨(hb_w 3284 (by decide +kernel)), by decide +kernel, by decide, (fun h => by cases h), hb_F23_ok false, hb_C23_ok, hb_I23_ok, hb_L23_ok⟩, fun ix sort y na ci h => hb_T23_ok ix sort y na ci h mX23_word__ rfl rfl⟩
  · cases h
theorem hb_M31_ok : ∀ (j : Nat) (M : ab_MI), hb_M31 j = some M → ab_OKm hb_G hb_TB M ∧ ab_OKc hb_G hb_TB M := by
  intro j M h
  unfold hb_M31 at h
  split at h
  · cases h
    exact ⟨⟨(hb_w 1143 (by decide +kernel)), by decide +kernel, by decide, (fun h => by cases h), hb_F31_ok false, hb_C31_ok, hb_I31_ok, hb_L31_ok⟩, fun ix sort y na ci h => hb_T31_ok ix sort y na ci h mJ11_isValidCodePoint_9a6ad rfl rfl⟩
  · cases h
    exact ⟨⟨(hb_w 1146 (by decide +kernel)), by decide +kernel, by decide, (fun h => by cases h), hb_F31_ok false, hb_C31_ok, hb_I31_ok, hb_L31_ok⟩, fun ix sort y na ci h => hb_T31_ok ix sort y na ci h mJ11_highSurrogate_5068e rfl rfl⟩
  · cases h
    exact ⟨⟨(hb_w 1150 (by decide +kernel)), by decide +kernel, by decide, (fun h => by cases h), hb_F31_ok false, hb_C31_ok, hb_I31_ok, hb_L31_ok⟩, fun ix sort y na ci h => hb_T31_ok ix sort y na ci h mJ11_lowSurrogate_5068e rfl rfl⟩
  · cases h
theorem hb_M33_ok : ∀ (j : Nat) (M : ab_MI), hb_M33 j = some M → ab_OKm hb_G hb_TB M ∧ ab_OKc hb_G hb_TB M := by
  intro j M h
  unfold hb_M33 at h
  split at h
  · cases h
    exact ⟨⟨(hb_w 1616 (by decide +kernel)), by decide +kernel, by decide, (fun h => by cases h), hb_F33_ok false, hb_C33_ok, hb_I33_ok, hb_L33_ok⟩, fun ix sort y na ci h => hb_T33_ok ix sort y na ci h mJ6_compare_7cf53 rfl rfl⟩
  · cases h
    exact ⟨⟨(hb_w 1712 (by decide +kernel)), by decide +kernel, by decide, (fun h => by cases h), hb_F33_ok false, hb_C33_ok, hb_I33_ok, hb_L33_ok⟩, fun ix sort y na ci h => hb_T33_ok ix sort y na ci h mJ6_numberOfTrailingZeros_0f7a4 rfl rfl⟩
  · cases h
    exact ⟨⟨(hb_w 487 (by decide +kernel)), by decide +kernel, by decide, (fun h => by cases h), hb_F33_ok false, hb_C33_ok, hb_I33_ok, hb_L33_ok⟩, fun ix sort y na ci h => hb_T33_ok ix sort y na ci h mJ6_bitCount_0f7a4 rfl rfl⟩
  · cases h
theorem hb_M35_ok : ∀ (j : Nat) (M : ab_MI), hb_M35 j = some M → ab_OKm hb_G hb_TB M ∧ ab_OKc hb_G hb_TB M := by
  intro j M h
  unfold hb_M35 at h
  split at h
  · cases h
    exact ⟨⟨(hb_w 1709 (by decide +kernel)), by decide +kernel, by decide, (fun h => by cases h), hb_F35_ok false, hb_C35_ok, hb_I35_ok, hb_L35_ok⟩, fun ix sort y na ci h => hb_T35_ok ix sort y na ci h mJ13_numberOfTrailingZeros_95d88 rfl rfl⟩
  · cases h
    exact ⟨⟨(hb_w 1630 (by decide +kernel)), by decide +kernel, by decide, (fun h => by cases h), hb_F35_ok false, hb_C35_ok, hb_I35_ok, hb_L35_ok⟩, fun ix sort y na ci h => hb_T35_ok ix sort y na ci h mJ13_bitCount_95d88 rfl rfl⟩
  · cases h
    exact ⟨⟨(hb_w 3090 (by decide +kernel)), by decide +kernel, by decide, (fun h => by cases h), hb_F35_ok false, hb_C35_ok, hb_I35_ok, hb_L35_ok⟩, fun ix sort y na ci h => hb_T35_ok ix sort y na ci h mJ13_signum_95d88 rfl rfl⟩
  · cases h
theorem hb_M36_ok : ∀ (j : Nat) (M : ab_MI), hb_M36 j = some M → ab_OKm hb_G hb_TB M ∧ ab_OKc hb_G hb_TB M := by
  intro j M h
  unfold hb_M36 at h
  split at h
  · cases h
    exact ⟨⟨(hb_w 1060 (by decide +kernel)), by decide +kernel, by decide, (fun h => by cases h), hb_F36_ok false, hb_C36_ok, hb_I36_ok, hb_L36_ok⟩, fun ix sort y na ci h => hb_T36_ok ix sort y na ci h mJ9_max_7cf53 rfl rfl⟩
  · cases h
    exact ⟨⟨(hb_w 1113 (by decide +kernel)), by decide +kernel, by decide, (fun h => by cases h), hb_F36_ok false, hb_C36_ok, hb_I36_ok, hb_L36_ok⟩, fun ix sort y na ci h => hb_T36_ok ix sort y na ci h mJ9_min_7cf53 rfl rfl⟩
  · cases h
    exact ⟨⟨(hb_w 1073 (by decide +kernel)), by decide +kernel, by decide, (fun h => by cases h), hb_F36_ok false, hb_C36_ok, hb_I36_ok, hb_L36_ok⟩, fun ix sort y na ci h => hb_T36_ok ix sort y na ci h mJ9_min_f86c9 rfl rfl⟩
  · cases h
theorem hb_M37_ok : ∀ (j : Nat) (M : ab_MI), hb_M37 j = some M → ab_OKm hb_G hb_TB M ∧ ab_OKc hb_G hb_TB M := by
  intro j M h
  unfold hb_M37 at h
  split at h
  · cases h
    exact ⟨⟨(hb_w 419 (by decide +kernel)), by decide +kernel, by decide, (fun h => by cases h), hb_F37_ok false, hb_C37_ok, hb_I37_ok, hb_L37_ok⟩, fun ix sort y na ci h => hb_T37_ok ix sort y na ci h mJ0_length_8abf5 rfl rfl⟩
  · cases h
    exact ⟨⟨(hb_w 429 (by decide +kernel)), by decide +kernel, by decide, (fun h => by cases h), hb_F37_ok false, hb_C37_ok, hb_I37_ok, hb_L37_ok⟩, fun ix sort y na ci h => hb_T37_ok ix sort y na ci h mJ0_charAt_5068e rfl rfl⟩
  · cases h
    exact ⟨⟨(hb_w 2683 (by decide +kernel)), by decide +kernel, by decide, (fun h => by cases h), hb_F37_ok false, hb_C37_ok, hb_I37_ok, hb_L37_ok⟩, fun ix sort y na ci h => hb_T37_ok ix sort y na ci h mJ0_equals_9ea2d rfl rfl⟩
  · cases h
    exact ⟨⟨(hb_w 1098 (by decide +kernel)), by decide +kernel, by decide, (fun h => by cases h), hb_F37_ok false, hb_C37_ok, hb_I37_ok, hb_L37_ok⟩, fun ix sort y na ci h => hb_T37_ok ix sort y na ci h mJ0_indexOf_0f7a4 rfl rfl⟩
  · cases h
    exact ⟨⟨(hb_w 1102 (by decide +kernel)), by decide +kernel, by decide, (fun h => by cases h), hb_F37_ok false, hb_C37_ok, hb_I37_ok, hb_L37_ok⟩, fun ix sort y na ci h => hb_T37_ok ix sort y na ci h mJ0_indexOf_7cf53 rfl rfl⟩
  · cases h
    exact ⟨⟨(hb_w 423 (by decide +kernel)), by decide +kernel, by decide, (fun h => by cases h), hb_F37_ok false, hb_C37_ok, hb_I37_ok, hb_L37_ok⟩, fun ix sort y na ci h => hb_T37_ok ix sort y na ci h mJ0_coder_7d493 rfl rfl⟩
  · cases h
    exact ⟨⟨(hb_w 433 (by decide +kernel)), by decide +kernel, by decide, (fun h => by cases h), hb_F37_ok false, hb_C37_ok, hb_I37_ok, hb_L37_ok⟩, fun ix sort y na ci h => hb_T37_ok ix sort y na ci h mJ0_isLatin1_aae02 rfl rfl⟩
  · cases h
    exact ⟨⟨(hb_w 439 (by decide +kernel)), by decide +kernel, by decide, (fun h => by cases h), hb_F37_ok false, hb_C37_ok, hb_I37_ok, hb_L37_ok⟩, fun ix sort y na ci h => hb_T37_ok ix sort y na ci h mJ0_checkIndex_df160 rfl rfl⟩
  · cases h
    exact ⟨⟨(hb_w 1131 (by decide +kernel)), by decide +kernel, by decide, (fun h => by cases h), hb_F37_ok false, hb_C37_ok, hb_I37_ok, hb_L37_ok⟩, fun ix sort y na ci h => hb_T37_ok ix sort y na ci h mJ0_checkBoundsBeginEnd_23922 rfl rfl⟩
  · cases h
theorem hb_M38_ok : ∀ (j : Nat) (M : ab_MI), hb_M38 j = some M → ab_OKm hb_G hb_TB M ∧ ab_OKc hb_G hb_TB M := by
  intro j M h
  unfold hb_M38 at h
  split at h
  · cases h
    exact ⟨⟨(hb_w 436 (by decide +kernel)), by decide +kernel, by decide, (fun h => by cases h), hb_F38_ok false, hb_C38_ok, hb_I38_ok, hb_L38_ok⟩, fun ix sort y na ci h => hb_T38_ok ix sort y na ci h mJ1_charAt_3b067 rfl rfl⟩
  · cases h
    exact ⟨⟨(hb_w 1109 (by decide +kernel)), by decide +kernel, by decide, (fun h => by cases h), hb_F38_ok false, hb_C38_ok, hb_I38_ok, hb_L38_ok⟩, fun ix sort y na ci h => hb_T38_ok ix sort y na ci h mJ1_canEncode_9a6ad rfl rfl⟩
  · cases h
    exact ⟨⟨(hb_w 2687 (by decide +kernel)), by decide +kernel, by decide, (fun h => by cases h), hb_F38_ok false, hb_C38_ok, hb_I38_ok, hb_L38_ok⟩, fun ix sort y na ci h => hb_T38_ok ix sort y na ci h mJ1_equals_b5fdf rfl rfl⟩
  · cases h
    exact ⟨⟨(hb_w 1106 (by decide +kernel)), by decide +kernel, by decide, (fun h => by cases h), hb_F38_ok false, hb_C38_ok, hb_I38_ok, hb_L38_ok⟩, fun ix sort y na ci h => hb_T38_ok ix sort y na ci h mJ1_indexOf_4cfef rfl rfl⟩
  · cases h
    exact ⟨⟨(hb_w 1116 (by decide +kernel)), by decide +kernel, by decide, (fun h => by cases h), hb_F38_ok false, hb_C38_ok, hb_I38_ok, hb_L38_ok⟩, fun ix sort y na ci h => hb_T38_ok ix sort y na ci h mJ1_indexOfChar_4cfef rfl rfl⟩
  · cases h
theorem hb_M39_ok : ∀ (j : Nat) (M : ab_MI), hb_M39 j = some M → ab_OKm hb_G hb_TB M ∧ ab_OKc hb_G hb_TB M := by
  intro j M h
  unfold hb_M39 at h
  split at h
  · cases h
    exact ⟨⟨(hb_w 457 (by decide +kernel)), by decide +kernel, by decide, (fun h => by cases h), hb_F39_ok false, hb_C39_ok, hb_I39_ok, hb_L39_ok⟩, fun ix sort y na ci h => hb_T39_ok ix sort y na ci h mJ2_getChar_3b067 rfl rfl⟩
  · cases h
    exact ⟨⟨(hb_w 453 (by decide +kernel)), by decide +kernel, by decide, (fun h => by cases h), hb_F39_ok false, hb_C39_ok, hb_I39_ok, hb_L39_ok⟩, fun ix sort y na ci h => hb_T39_ok ix sort y na ci h mJ2_length_9d52b rfl rfl⟩
  · cases h
    exact ⟨⟨(hb_w 1119 (by decide +kernel)), by decide +kernel, by decide, (fun h => by cases h), hb_F39_ok false, hb_C39_ok, hb_I39_ok, hb_L39_ok⟩, fun ix sort y na ci h => hb_T39_ok ix sort y na ci h mJ2_indexOf_4cfef rfl rfl⟩
  · cases h
    exact ⟨⟨(hb_w 1125 (by decide +kernel)), by decide +kernel, by decide, (fun h => by cases h), hb_F39_ok false, hb_C39_ok, hb_I39_ok, hb_L39_ok⟩, fun ix sort y na ci h => hb_T39_ok ix sort y na ci h mJ2_indexOfChar_4cfef rfl rfl⟩
  · cases h
    exact ⟨⟨(hb_w 1137 (by decide +kernel)), by decide +kernel, by decide, (fun h => by cases h), hb_F39_ok false, hb_C39_ok, hb_I39_ok, hb_L39_ok⟩, fun ix sort y na ci h => hb_T39_ok ix sort y na ci h mJ2_indexOfCharUnsafe_4cfef rfl rfl⟩
  · cases h
    exact ⟨⟨(hb_w 1140 (by decide +kernel)), by decide +kernel, by decide, (fun h => by cases h), hb_F39_ok false, hb_C39_ok, hb_I39_ok, hb_L39_ok⟩, fun ix sort y na ci h => hb_T39_ok ix sort y na ci h mJ2_indexOfSupplementary_4cfef rfl rfl⟩
  · cases h
    exact ⟨⟨(hb_w 447 (by decide +kernel)), by decide +kernel, by decide, (fun h => by cases h), hb_F39_ok false, hb_C39_ok, hb_I39_ok, hb_L39_ok⟩, fun ix sort y na ci h => hb_T39_ok ix sort y na ci h mJ2_charAt_3b067 rfl rfl⟩
  · cases h
    exact ⟨⟨(hb_w 450 (by decide +kernel)), by decide +kernel, by decide, (fun h => by cases h), hb_F39_ok false, hb_C39_ok, hb_I39_ok, hb_L39_ok⟩, fun ix sort y na ci h => hb_T39_ok ix sort y na ci h mJ2_checkIndex_2214a rfl rfl⟩
  · cases h
    exact ⟨⟨(hb_w 1128 (by decide +kernel)), by decide +kernel, by decide, (fun h => by cases h), hb_F39_ok false, hb_C39_ok, hb_I39_ok, hb_L39_ok⟩, fun ix sort y na ci h => hb_T39_ok ix sort y na ci h mJ2_checkBoundsBeginEnd_d044e rfl rfl⟩
  · cases h
theorem hb_M41_ok : ∀ (j : Nat) (M : ab_MI), hb_M41 j = some M → ab_OKm hb_G hb_TB M ∧ ab_OKc hb_G hb_TB M := by
  intro j M h
  unfold hb_M41 at h
  split at h
  · cases h
    exact ⟨⟨(hb_w 1984 (by decide +kernel)), by decide +kernel, by decide, fun _ => rfl, hb_F41_ok true, hb_C41_ok, hb_I41_ok, hb_L41_ok⟩, fun ix sort y na ci h => hb_T41_ok ix sort y na ci h mJxa1e45_init_da8c8 rfl rfl⟩
  · cases h
theorem hb_M42_ok : ∀ (j : Nat) (M : ab_MI), hb_M42 j = some M → ab_OKm hb_G hb_TB M ∧ ab_OKc hb_G hb_TB M := by
  intro j M h
  unfold hb_M42 at h
  split at h
  · cases h
    exact ⟨⟨(hb_w 1981 (by decide +kernel)), by decide +kernel, by decide, fun _ => rfl, hb_F42_ok true, hb_C42_ok, hb_I42_ok, hb_L42_ok⟩, fun ix sort y na ci h => hb_T42_ok ix sort y na ci h mJxc12de_init_da8c8 rfl rfl⟩
  · cases h
theorem hb_M43_ok : ∀ (j : Nat) (M : ab_MI), hb_M43 j = some M → ab_OKm hb_G hb_TB M ∧ ab_OKc hb_G hb_TB M := by
  intro j M h
  unfold hb_M43 at h
  split at h
  · cases h
    exact ⟨⟨(hb_w 1978 (by decide +kernel)), by decide +kernel, by decide, fun _ => rfl, hb_F43_ok true, hb_C43_ok, hb_I43_ok, hb_L43_ok⟩, fun ix sort y na ci h => hb_T43_ok ix sort y na ci h mJx4a65c_init_da8c8 rfl rfl⟩
  · cases h
    exact ⟨⟨(hb_w 2876 (by decide +kernel)), by decide +kernel, by decide, (fun h => by cases h), hb_F43_ok false, hb_C43_ok, hb_I43_ok, hb_L43_ok⟩, fun ix sort y na ci h => hb_T43_ok ix sort y na ci h mJx4a65c_grow_92f84 rfl rfl⟩
  · cases h
    exact ⟨⟨(hb_w 2872 (by decide +kernel)), by decide +kernel, by decide, (fun h => by cases h), hb_F43_ok false, hb_C43_ok, hb_I43_ok, hb_L43_ok⟩, fun ix sort y na ci h => hb_T43_ok ix sort y na ci h mJx4a65c_grow_d5877 rfl rfl⟩
  · cases h
    exact ⟨⟨(hb_w 2805 (by decide +kernel)), by decide +kernel, by decide, (fun h => by cases h), hb_F43_ok false, hb_C43_ok, hb_I43_ok, hb_L43_ok⟩, fun ix sort y na ci h => hb_T43_ok ix sort y na ci h mJx4a65c_size_8abf5 rfl rfl⟩
  · cases h
    exact ⟨⟨(hb_w 2939 (by decide +kernel)), by decide +kernel, by decide, (fun h => by cases h), hb_F43_ok false, hb_C43_ok, hb_I43_ok, hb_L43_ok⟩, fun ix sort y na ci h => hb_T43_ok ix sort y na ci h mJx4a65c_elementData_915e3 rfl rfl⟩
  · cases h
    exact ⟨⟨(hb_w 2931 (by decide +kernel)), by decide +kernel, by decide, (fun h => by cases h), hb_F43_ok false, hb_C43_ok, hb_I43_ok, hb_L43_ok⟩, fun ix sort y na ci h => hb_T43_ok ix sort y na ci h mJx4a65c_get_915e3 rfl rfl⟩
  · cases h
    exact ⟨⟨(hb_w 2868 (by decide +kernel)), by decide +kernel, by decide, (fun h => by cases h), hb_F43_ok false, hb_C43_ok, hb_I43_ok, hb_L43_ok⟩, fun ix sort y na ci h => hb_T43_ok ix sort y na ci h mJx4a65c_add_72be8 rfl rfl⟩
  · cases h
    exact ⟨⟨(hb_w 2864 (by decide +kernel)), by decide +kernel, by decide, (fun h => by cases h), hb_F43_ok false, hb_C43_ok, hb_I43_ok, hb_L43_ok⟩, fun ix sort y na ci h => hb_T43_ok ix sort y na ci h mJx4a65c_add_9ea2d rfl rfl⟩
  · cases h
theorem hb_M44_ok : ∀ (j : Nat) (M : ab_MI), hb_M44 j = some M → ab_OKm hb_G hb_TB M ∧ ab_OKc hb_G hb_TB M := by
  intro j M h
  unfold hb_M44 at h
  split at h
  · cases h
    exact ⟨⟨(hb_w 540 (by decide +kernel)), by decide +kernel, by decide, (fun h => by cases h), hb_F44_ok false, hb_C44_ok, hb_I44_ok, hb_L44_ok⟩, fun ix sort y na ci h => hb_T44_ok ix sort y na ci h mJ7_fill_d0a16 rfl rfl⟩
  · cases h
    exact ⟨⟨(hb_w 497 (by decide +kernel)), by decide +kernel, by decide, (fun h => by cases h), hb_F44_ok false, hb_C44_ok, hb_I44_ok, hb_L44_ok⟩, fun ix sort y na ci h => hb_T44_ok ix sort y na ci h mJ7_fill_53178 rfl rfl⟩
  · cases h
    exact ⟨⟨(hb_w 2887 (by decide +kernel)), by decide +kernel, by decide, (fun h => by cases h), hb_F44_ok false, hb_C44_ok, hb_I44_ok, hb_L44_ok⟩, fun ix sort y na ci h => hb_T44_ok ix sort y na ci h mJ7_copyOf_1904c rfl rfl⟩
  · cases h
    exact ⟨⟨(hb_w 2922 (by decide +kernel)), by decide +kernel, by decide, (fun h => by cases h), hb_F44_ok false, hb_C44_ok, hb_I44_ok, hb_L44_ok⟩, fun ix sort y na ci h => hb_T44_ok ix sort y na ci h mJ7_copyOf_6403c rfl rfl⟩
  · cases h
    exact ⟨⟨(hb_w 1467 (by decide +kernel)), by decide +kernel, by decide, (fun h => by cases h), hb_F44_ok false, hb_C44_ok, hb_I44_ok, hb_L44_ok⟩, fun ix sort y na ci h => hb_T44_ok ix sort y na ci h mJ7_copyOf_9075b rfl rfl⟩
  · cases h
    exact ⟨⟨(hb_w 1273 (by decide +kernel)), by decide +kernel, by decide, (fun h => by cases h), hb_F44_ok false, hb_C44_ok, hb_I44_ok, hb_L44_ok⟩, fun ix sort y na ci h => hb_T44_ok ix sort y na ci h mJ7_copyOf_59c91 rfl rfl⟩
  · cases h
theorem hb_M47_ok : ∀ (j : Nat) (M : ab_MI), hb_M47 j = some M → ab_OKm hb_G hb_TB M ∧ ab_OKc hb_G hb_TB M := by
  intro j M h
  unfold hb_M47 at h
  split at h
  · cases h
    exact ⟨⟨(hb_w 2934 (by decide +kernel)), by decide +kernel, by decide, (fun h => by cases h), hb_F47_ok false, hb_C47_ok, hb_I47_ok, hb_L47_ok⟩, fun ix sort y na ci h => hb_T47_ok ix sort y na ci h mJ15_checkIndex_7cf53 rfl rfl⟩
  · cases h
theorem hb_M50_ok : ∀ (j : Nat) (M : ab_MI), hb_M50 j = some M → ab_OKm hb_G hb_TB M ∧ ab_OKc hb_G hb_TB M := by
  intro j M h
  unfold hb_M50 at h
  split at h
  · cases h
    exact ⟨⟨(hb_w 2879 (by decide +kernel)), by decide +kernel, by decide, (fun h => by cases h), hb_F50_ok false, hb_C50_ok, hb_I50_ok, hb_L50_ok⟩, fun ix sort y na ci h => hb_T50_ok ix sort y na ci h mJ8_newLength_cabcc rfl rfl⟩
  · cases h
    exact ⟨⟨(hb_w 2884 (by decide +kernel)), by decide +kernel, by decide, (fun h => by cases h), hb_F50_ok false, hb_C50_ok, hb_I50_ok, hb_L50_ok⟩, fun ix sort y na ci h => hb_T50_ok ix sort y na ci h mJ8_hugeLength_7cf53 rfl rfl⟩
  · cases h
theorem hb_M51_ok : ∀ (j : Nat) (M : ab_MI), hb_M51 j = some M → ab_OKm hb_G hb_TB M ∧ ab_OKc hb_G hb_TB M := by
  intro j M h
  unfold hb_M51 at h
  split at h
  · cases h
    exact ⟨⟨(hb_w 444 (by decide +kernel)), by decide +kernel, by decide, (fun h => by cases h), hb_F51_ok false, hb_C51_ok, hb_I51_ok, hb_L51_ok⟩, fun ix sort y na ci h => hb_T51_ok ix sort y na ci h mJ3_checkIndex_8e157 rfl rfl⟩
  · cases h
    exact ⟨⟨(hb_w 1134 (by decide +kernel)), by decide +kernel, by decide, (fun h => by cases h), hb_F51_ok false, hb_C51_ok, hb_I51_ok, hb_L51_ok⟩, fun ix sort y na ci h => hb_T51_ok ix sort y na ci h mJ3_checkFromToIndex_8c36e rfl rfl⟩
  · cases h
theorem hb_M_ok : ∀ (y : Nat) (M : ab_MI), ab_gM hb_G y = some M → ab_OKm hb_G hb_TB M ∧ ab_OKc hb_G hb_TB M := by
  intro y M h
  have h : hb_Mc (y / 256) (y % 256) = some M := h
  unfold hb_Mc at h
  split at h
  · exact hb_M0_ok _ _ h
  · exact hb_M1_ok _ _ h
  · exact hb_M2_ok _ _ h
  · exact hb_M3_ok _ _ h
  · exact hb_M4_ok _ _ h
  · exact hb_M5_ok _ _ h
  · exact hb_M6_ok _ _ h
  · exact hb_M7_ok _ _ h
  · exact hb_M8_ok _ _ h
  · exact hb_M9_ok _ _ h
  · exact hb_M10_ok _ _ h
  · exact hb_M11_ok _ _ h
  · exact hb_M12_ok _ _ h
  · exact hb_M13_ok _ _ h
  · exact hb_M14_ok _ _ h
  · exact hb_M15_ok _ _ h
  · exact hb_M16_ok _ _ h
  · exact hb_M17_ok _ _ h
  · exact hb_M18_ok _ _ h
  · exact hb_M19_ok _ _ h
  · exact hb_M20_ok _ _ h
  · exact hb_M21_ok _ _ h
  · exact hb_M22_ok _ _ h
  · exact hb_M23_ok _ _ h
  · exact hb_M31_ok _ _ h
  · exact hb_M33_ok _ _ h
  · exact hb_M35_ok _ _ h
  · exact hb_M36_ok _ _ h
  · exact hb_M37_ok _ _ h
  · exact hb_M38_ok _ _ h
  · exact hb_M39_ok _ _ h
  · exact hb_M41_ok _ _ h
  · exact hb_M42_ok _ _ h
  · exact hb_M43_ok _ _ h
  · exact hb_M44_ok _ _ h
  · exact hb_M47_ok _ _ h
  · exact hb_M50_ok _ _ h
  · exact hb_M51_ok _ _ h
  · cases h
theorem hb_arr : ∀ a q, ab_na a = some q → Cond.arrayClass q.2.1 ∈ hb_TB := by
  intro a q h
  cases a <;> first | (cases h; done) | skip
  · cases h
    exact (hb_w 290 (by decide +kernel))
  · cases h
    exact (hb_w 650 (by decide +kernel))
  · cases h
    exact (hb_w 291 (by decide +kernel))
  · cases h
    exact (hb_w 383 (by decide +kernel))
/-- THE TABLES ARE RIGHT -/
theorem hb_OK : ab_OK hb_G hb_TB := ⟨hb_good, hb_arr, hb_M_ok⟩

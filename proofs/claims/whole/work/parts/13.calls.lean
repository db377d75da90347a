theorem hb_T0_ok (O : Nat → Option String) (X : ab_X) : ∀ (ix sort y na ci : Nat), hb_T0 ix = some (sort, y, na, ci) → ∀ M : ab_MI, ab_mo M = 0 → (ab_my M).cls = RX0 →
    (sort = 4 → Cond.methodLink (ab_my M).cls ix objectInit ∈ hb_TB ∧ Cond.instanceMethod objectInit ∈ hb_TB ∧ Cond.code objectInit ⟨#[0xb1]⟩ 1 none ∈ hb_TB) ∧
    (sort = 5 → Cond.methodLink (ab_my M).cls ix arraycopyName ∈ hb_TB ∧ Cond.native arraycopyName ∈ hb_TB ∧ Cond.static arraycopyName ∈ hb_TB ∧ Cond.initialized "java/lang/System" ∈ hb_TB) ∧
    (sort < 4 ∨ sort = 6 → ∀ M' : ab_MI, ab_gM (hb_Gx O X) y = some M' → (sort ≠ 3 → Cond.methodLink (ab_my M).cls ix (ab_my M') ∈ hb_TB) ∧ Cond.initialized (ab_my M').cls ∈ hb_TB ∧ ((ab_my M').cls ≠ "java/lang/invoke/MethodHandle" ∧ (ab_my M').cls ≠ "java/lang/invoke/VarHandle" ∧ (parseMethodDescriptor (ab_my M').desc).map (fun d => d.parameters.length) = some na) ∧
      (sort = 0 → Cond.instanceMethod (ab_my M') ∈ hb_TB ∧ Cond.selects (ab_my M').cls (ab_my M') (ab_my M') ∈ hb_TB ∧ ∃ q : vw_C, (ab_gK (hb_Gx O X))[ci]? = some q ∧ q.1 = (ab_my M').cls) ∧
      (sort = 1 → Cond.static (ab_my M') ∈ hb_TB) ∧
      (sort = 6 → Cond.instanceMethod (ab_my M') ∈ hb_TB ∧ Cond.selects (ab_my M').cls (ab_my M') (ab_my M') ∈ hb_TB ∧ (ab_my M').cls = "java/lang/String") ∧
      (sort = 2 ∨ sort = 3 → (ab_my M').name = "<init>" ∧ Cond.instanceMethod (ab_my M') ∈ hb_TB ∧ ab_mr M' = none)) := by
  intro ix sort y na ci h M _ hcl
  rw [hcl]
  unfold hb_T0 at h
  split at h
  · cases h
    exact ⟨fun _ => ⟨(hb_w 885 (by decide +kernel)), (hb_w 247 (by decide +kernel)), (hb_w 248 (by decide +kernel))⟩, fun h => absurd h (by decide), fun h => absurd h (by decide)⟩
  · cases h
    refine ⟨fun h => absurd h (by decide), fun h => absurd h (by decide), fun _ M' hM' => ?_⟩
    obtain rfl : mX4_kindOf = M' := Option.some.inj ((show ab_gM (hb_Gx O X) 1025 = some mX4_kindOf from rfl).symm.trans hM')
    exact ⟨fun _ => (hb_w 1782 (by decide +kernel)), (hb_w 213 (by decide +kernel)), by decide +kernel, fun h => absurd h (by decide), fun _ => (hb_w 1783 (by decide +kernel)), fun h => absurd h (by decide), fun h => absurd h (by decide)⟩
  · cases h
    refine ⟨fun h => absurd h (by decide), fun h => absurd h (by decide), fun _ M' hM' => ?_⟩
    obtain rfl : mX3_looksFor = M' := Option.some.inj ((show ab_gM (hb_Gx O X) 773 = some mX3_looksFor from rfl).symm.trans hM')
    exact ⟨fun _ => (hb_w 1785 (by decide +kernel)), (hb_w 211 (by decide +kernel)), by decide +kernel, fun _ => ⟨(hb_w 1786 (by decide +kernel)), (hb_w 1787 (by decide +kernel)), _, rfl, rfl⟩, fun h => absurd h (by decide), fun h => absurd h (by decide), fun h => absurd h (by decide)⟩
  · cases h
    refine ⟨fun h => absurd h (by decide), fun h => absurd h (by decide), fun _ M' hM' => ?_⟩
    obtain rfl : mX0_gatherApplying = M' := Option.some.inj ((show ab_gM (hb_Gx O X) 5 = some mX0_gatherApplying from rfl).symm.trans hM')
    exact ⟨fun _ => (hb_w 1794 (by decide +kernel)), (hb_w 214 (by decide +kernel)), by decide +kernel, fun _ => ⟨(hb_w 1796 (by decide +kernel)), (hb_w 74 (by decide +kernel)), _, rfl, rfl⟩, fun h => absurd h (by decide), fun h => absurd h (by decide), fun h => absurd h (by decide)⟩
  · cases h
    refine ⟨fun h => absurd h (by decide), fun h => absurd h (by decide), fun _ M' hM' => ?_⟩
    obtain rfl : mX0_gatherGroup = M' := Option.some.inj ((show ab_gM (hb_Gx O X) 9 = some mX0_gatherGroup from rfl).symm.trans hM')
    exact ⟨fun _ => (hb_w 1812 (by decide +kernel)), (hb_w 214 (by decide +kernel)), by decide +kernel, fun _ => ⟨(hb_w 1814 (by decide +kernel)), (hb_w 77 (by decide +kernel)), _, rfl, rfl⟩, fun h => absurd h (by decide), fun h => absurd h (by decide), fun h => absurd h (by decide)⟩
  · cases h
    refine ⟨fun h => absurd h (by decide), fun h => absurd h (by decide), fun _ M' hM' => ?_⟩
    obtain rfl : mX0_layGroup = M' := Option.some.inj ((show ab_gM (hb_Gx O X) 10 = some mX0_layGroup from rfl).symm.trans hM')
    exact ⟨fun _ => (hb_w 1816 (by decide +kernel)), (hb_w 214 (by decide +kernel)), by decide +kernel, fun _ => ⟨(hb_w 1818 (by decide +kernel)), (hb_w 78 (by decide +kernel)), _, rfl, rfl⟩, fun h => absurd h (by decide), fun h => absurd h (by decide), fun h => absurd h (by decide)⟩
  · cases h
    refine ⟨fun h => absurd h (by decide), fun h => absurd h (by decide), fun _ M' hM' => ?_⟩
    obtain rfl : mX11_listFor = M' := Option.some.inj ((show ab_gM (hb_Gx O X) 2828 = some mX11_listFor from rfl).symm.trans hM')
    exact ⟨fun _ => (hb_w 1798 (by decide +kernel)), (hb_w 197 (by decide +kernel)), by decide +kernel, fun _ => ⟨(hb_w 1704 (by decide +kernel)), (hb_w 1705 (by decide +kernel)), _, rfl, rfl⟩, fun h => absurd h (by decide), fun h => absurd h (by decide), fun h => absurd h (by decide)⟩
  · cases h
    refine ⟨fun h => absurd h (by decide), fun h => absurd h (by decide), fun _ M' hM' => ?_⟩
    obtain rfl : mX0_isOn = M' := Option.some.inj ((show ab_gM (hb_Gx O X) 6 = some mX0_isOn from rfl).symm.trans hM')
    exact ⟨fun _ => (hb_w 1799 (by decide +kernel)), (hb_w 214 (by decide +kernel)), by decide +kernel, fun h => absurd h (by decide), fun _ => (hb_w 1800 (by decide +kernel)), fun h => absurd h (by decide), fun h => absurd h (by decide)⟩
  · cases h
    refine ⟨fun h => absurd h (by decide), fun h => absurd h (by decide), fun _ M' hM' => ?_⟩
    obtain rfl : mX0_takes = M' := Option.some.inj ((show ab_gM (hb_Gx O X) 7 = some mX0_takes from rfl).symm.trans hM')
    exact ⟨fun _ => (hb_w 1803 (by decide +kernel)), (hb_w 214 (by decide +kernel)), by decide +kernel, fun _ => ⟨(hb_w 1805 (by decide +kernel)), (hb_w 75 (by decide +kernel)), _, rfl, rfl⟩, fun h => absurd h (by decide), fun h => absurd h (by decide), fun h => absurd h (by decide)⟩
  · cases h
    refine ⟨fun h => absurd h (by decide), fun h => absurd h (by decide), fun _ M' hM' => ?_⟩
    obtain rfl : mX0_holds = M' := Option.some.inj ((show ab_gM (hb_Gx O X) 8 = some mX0_holds from rfl).symm.trans hM')
    exact ⟨fun _ => (hb_w 1807 (by decide +kernel)), (hb_w 214 (by decide +kernel)), by decide +kernel, fun _ => ⟨(hb_w 1809 (by decide +kernel)), (hb_w 76 (by decide +kernel)), _, rfl, rfl⟩, fun h => absurd h (by decide), fun h => absurd h (by decide), fun h => absurd h (by decide)⟩
  · cases h
    refine ⟨fun h => absurd h (by decide), fun h => absurd h (by decide), fun _ M' hM' => ?_⟩
    obtain rfl : mX2_isBelow = M' := Option.some.inj ((show ab_gM (hb_Gx O X) 513 = some mX2_isBelow from rfl).symm.trans hM')
    exact ⟨fun _ => (hb_w 1811 (by decide +kernel)), (hb_w 198 (by decide +kernel)), by decide +kernel, fun _ => ⟨(hb_w 550 (by decide +kernel)), (hb_w 551 (by decide +kernel)), _, rfl, rfl⟩, fun h => absurd h (by decide), fun h => absurd h (by decide), fun h => absurd h (by decide)⟩
  · cases h
    refine ⟨fun h => absurd h (by decide), fun h => absurd h (by decide), fun _ M' hM' => ?_⟩
    obtain rfl : mX6_compare = M' := Option.some.inj ((show ab_gM (hb_Gx O X) 1538 = some mX6_compare from rfl).symm.trans hM')
    exact ⟨fun _ => (hb_w 1820 (by decide +kernel)), (hb_w 209 (by decide +kernel)), by decide +kernel, fun _ => ⟨(hb_w 1556 (by decide +kernel)), (hb_w 1557 (by decide +kernel)), _, rfl, rfl⟩, fun h => absurd h (by decide), fun h => absurd h (by decide), fun h => absurd h (by decide)⟩
  · cases h
    refine ⟨fun h => absurd h (by decide), fun h => absurd h (by decide), fun _ M' hM' => ?_⟩
    obtain rfl : mX0_pickNext = M' := Option.some.inj ((show ab_gM (hb_Gx O X) 11 = some mX0_pickNext from rfl).symm.trans hM')
    exact ⟨fun _ => (hb_w 1821 (by decide +kernel)), (hb_w 214 (by decide +kernel)), by decide +kernel, fun _ => ⟨(hb_w 1823 (by decide +kernel)), (hb_w 79 (by decide +kernel)), _, rfl, rfl⟩, fun h => absurd h (by decide), fun h => absurd h (by decide), fun h => absurd h (by decide)⟩
  · cases h
theorem hb_T1_ok (O : Nat → Option String) (X : ab_X) : ∀ (ix sort y na ci : Nat), hb_T1 ix = some (sort, y, na, ci) → ∀ M : ab_MI, ab_mo M = 1 → (ab_my M).cls = RX1 →
    (sort = 4 → Cond.methodLink (ab_my M).cls ix objectInit ∈ hb_TB ∧ Cond.instanceMethod objectInit ∈ hb_TB ∧ Cond.code objectInit ⟨#[0xb1]⟩ 1 none ∈ hb_TB) ∧
    (sort = 5 → Cond.methodLink (ab_my M).cls ix arraycopyName ∈ hb_TB ∧ Cond.native arraycopyName ∈ hb_TB ∧ Cond.static arraycopyName ∈ hb_TB ∧ Cond.initialized "java/lang/System" ∈ hb_TB) ∧
    (sort < 4 ∨ sort = 6 → ∀ M' : ab_MI, ab_gM (hb_Gx O X) y = some M' → (sort ≠ 3 → Cond.methodLink (ab_my M).cls ix (ab_my M') ∈ hb_TB) ∧ Cond.initialized (ab_my M').cls ∈ hb_TB ∧ ((ab_my M').cls ≠ "java/lang/invoke/MethodHandle" ∧ (ab_my M').cls ≠ "java/lang/invoke/VarHandle" ∧ (parseMethodDescriptor (ab_my M').desc).map (fun d => d.parameters.length) = some na) ∧
      (sort = 0 → Cond.instanceMethod (ab_my M') ∈ hb_TB ∧ Cond.selects (ab_my M').cls (ab_my M') (ab_my M') ∈ hb_TB ∧ ∃ q : vw_C, (ab_gK (hb_Gx O X))[ci]? = some q ∧ q.1 = (ab_my M').cls) ∧
      (sort = 1 → Cond.static (ab_my M') ∈ hb_TB) ∧
      (sort = 6 → Cond.instanceMethod (ab_my M') ∈ hb_TB ∧ Cond.selects (ab_my M').cls (ab_my M') (ab_my M') ∈ hb_TB ∧ (ab_my M').cls = "java/lang/String") ∧
      (sort = 2 ∨ sort = 3 → (ab_my M').name = "<init>" ∧ Cond.instanceMethod (ab_my M') ∈ hb_TB ∧ ab_mr M' = none)) := by
  intro ix sort y na ci h M _ hcl
  rw [hcl]
  unfold hb_T1 at h
  split at h
  · cases h
    exact ⟨fun _ => ⟨(hb_w 389 (by decide +kernel)), (hb_w 247 (by decide +kernel)), (hb_w 248 (by decide +kernel))⟩, fun h => absurd h (by decide), fun h => absurd h (by decide)⟩
  · cases h
    refine ⟨fun h => absurd h (by decide), fun h => absurd h (by decide), fun _ M' hM' => ?_⟩
    obtain rfl : mJ9_max_7cf53 = M' := Option.some.inj ((show ab_gM (hb_Gx O X) 9216 = some mJ9_max_7cf53 from rfl).symm.trans hM')
    exact ⟨fun _ => (hb_w 1270 (by decide +kernel)), (hb_w 231 (by decide +kernel)), by decide +kernel, fun h => absurd h (by decide), fun _ => (hb_w 1059 (by decide +kernel)), fun h => absurd h (by decide), fun h => absurd h (by decide)⟩
  · cases h
    refine ⟨fun h => absurd h (by decide), fun h => absurd h (by decide), fun _ M' hM' => ?_⟩
    obtain rfl : mJ7_copyOf_59c91 = M' := Option.some.inj ((show ab_gM (hb_Gx O X) 11269 = some mJ7_copyOf_59c91 from rfl).symm.trans hM')
    exact ⟨fun _ => (hb_w 1271 (by decide +kernel)), (hb_w 207 (by decide +kernel)), by decide +kernel, fun h => absurd h (by decide), fun _ => (hb_w 1272 (by decide +kernel)), fun h => absurd h (by decide), fun h => absurd h (by decide)⟩
  · cases h
theorem hb_T2_ok (O : Nat → Option String) (X : ab_X) : ∀ (ix sort y na ci : Nat), hb_T2 ix = some (sort, y, na, ci) → ∀ M : ab_MI, ab_mo M = 2 → (ab_my M).cls = RX2 →
    (sort = 4 → Cond.methodLink (ab_my M).cls ix objectInit ∈ hb_TB ∧ Cond.instanceMethod objectInit ∈ hb_TB ∧ Cond.code objectInit ⟨#[0xb1]⟩ 1 none ∈ hb_TB) ∧
    (sort = 5 → Cond.methodLink (ab_my M).cls ix arraycopyName ∈ hb_TB ∧ Cond.native arraycopyName ∈ hb_TB ∧ Cond.static arraycopyName ∈ hb_TB ∧ Cond.initialized "java/lang/System" ∈ hb_TB) ∧
    (sort < 4 ∨ sort = 6 → ∀ M' : ab_MI, ab_gM (hb_Gx O X) y = some M' → (sort ≠ 3 → Cond.methodLink (ab_my M).cls ix (ab_my M') ∈ hb_TB) ∧ Cond.initialized (ab_my M').cls ∈ hb_TB ∧ ((ab_my M').cls ≠ "java/lang/invoke/MethodHandle" ∧ (ab_my M').cls ≠ "java/lang/invoke/VarHandle" ∧ (parseMethodDescriptor (ab_my M').desc).map (fun d => d.parameters.length) = some na) ∧
      (sort = 0 → Cond.instanceMethod (ab_my M') ∈ hb_TB ∧ Cond.selects (ab_my M').cls (ab_my M') (ab_my M') ∈ hb_TB ∧ ∃ q : vw_C, (ab_gK (hb_Gx O X))[ci]? = some q ∧ q.1 = (ab_my M').cls) ∧
      (sort = 1 → Cond.static (ab_my M') ∈ hb_TB) ∧
      (sort = 6 → Cond.instanceMethod (ab_my M') ∈ hb_TB ∧ Cond.selects (ab_my M').cls (ab_my M') (ab_my M') ∈ hb_TB ∧ (ab_my M').cls = "java/lang/String") ∧
      (sort = 2 ∨ sort = 3 → (ab_my M').name = "<init>" ∧ Cond.instanceMethod (ab_my M') ∈ hb_TB ∧ ab_mr M' = none)) := by
  intro ix sort y na ci h M _ hcl
  rw [hcl]
  unfold hb_T2 at h
  split at h
  · cases h
    exact ⟨fun _ => ⟨(hb_w 260 (by decide +kernel)), (hb_w 247 (by decide +kernel)), (hb_w 248 (by decide +kernel))⟩, fun h => absurd h (by decide), fun h => absurd h (by decide)⟩
  · cases h
    refine ⟨fun h => absurd h (by decide), fun h => absurd h (by decide), fun _ M' hM' => ?_⟩
    obtain rfl : mJ6_bitCount_0f7a4 = M' := Option.some.inj ((show ab_gM (hb_Gx O X) 8450 = some mJ6_bitCount_0f7a4 from rfl).symm.trans hM')
    exact ⟨fun _ => (hb_w 485 (by decide +kernel)), (hb_w 206 (by decide +kernel)), by decide +kernel, fun h => absurd h (by decide), fun _ => (hb_w 486 (by decide +kernel)), fun h => absurd h (by decide), fun h => absurd h (by decide)⟩
  · cases h
    refine ⟨fun h => absurd h (by decide), fun h => absurd h (by decide), fun _ M' hM' => ?_⟩
    obtain rfl : mX2_merge = M' := Option.some.inj ((show ab_gM (hb_Gx O X) 520 = some mX2_merge from rfl).symm.trans hM')
    exact ⟨fun _ => (hb_w 491 (by decide +kernel)), (hb_w 198 (by decide +kernel)), by decide +kernel, fun _ => ⟨(hb_w 493 (by decide +kernel)), (hb_w 0 (by decide +kernel)), _, rfl, rfl⟩, fun h => absurd h (by decide), fun h => absurd h (by decide), fun h => absurd h (by decide)⟩
  · cases h
    refine ⟨fun h => absurd h (by decide), fun h => absurd h (by decide), fun _ M' hM' => ?_⟩
    obtain rfl : mX2_joinByFirst = M' := Option.some.inj ((show ab_gM (hb_Gx O X) 525 = some mX2_joinByFirst from rfl).symm.trans hM')
    exact ⟨fun _ => (hb_w 518 (by decide +kernel)), (hb_w 198 (by decide +kernel)), by decide +kernel, fun _ => ⟨(hb_w 520 (by decide +kernel)), (hb_w 6 (by decide +kernel)), _, rfl, rfl⟩, fun h => absurd h (by decide), fun h => absurd h (by decide), fun h => absurd h (by decide)⟩
  · cases h
    refine ⟨fun h => absurd h (by decide), fun h => absurd h (by decide), fun _ M' hM' => ?_⟩
    obtain rfl : mX2_joinByLast = M' := Option.some.inj ((show ab_gM (hb_Gx O X) 526 = some mX2_joinByLast from rfl).symm.trans hM')
    exact ⟨fun _ => (hb_w 526 (by decide +kernel)), (hb_w 198 (by decide +kernel)), by decide +kernel, fun _ => ⟨(hb_w 528 (by decide +kernel)), (hb_w 7 (by decide +kernel)), _, rfl, rfl⟩, fun h => absurd h (by decide), fun h => absurd h (by decide), fun h => absurd h (by decide)⟩
  · cases h
    refine ⟨fun h => absurd h (by decide), fun h => absurd h (by decide), fun _ M' hM' => ?_⟩
    obtain rfl : mX2_inRow = M' := Option.some.inj ((show ab_gM (hb_Gx O X) 514 = some mX2_inRow from rfl).symm.trans hM')
    exact ⟨fun _ => (hb_w 522 (by decide +kernel)), (hb_w 198 (by decide +kernel)), by decide +kernel, fun _ => ⟨(hb_w 523 (by decide +kernel)), (hb_w 524 (by decide +kernel)), _, rfl, rfl⟩, fun h => absurd h (by decide), fun h => absurd h (by decide), fun h => absurd h (by decide)⟩
  · cases h
    refine ⟨fun h => absurd h (by decide), fun h => absurd h (by decide), fun _ M' hM' => ?_⟩
    obtain rfl : mJ7_fill_53178 = M' := Option.some.inj ((show ab_gM (hb_Gx O X) 11265 = some mJ7_fill_53178 from rfl).symm.trans hM')
    exact ⟨fun _ => (hb_w 495 (by decide +kernel)), (hb_w 207 (by decide +kernel)), by decide +kernel, fun h => absurd h (by decide), fun _ => (hb_w 496 (by decide +kernel)), fun h => absurd h (by decide), fun h => absurd h (by decide)⟩
  · cases h
    refine ⟨fun h => absurd h (by decide), fun h => absurd h (by decide), fun _ M' hM' => ?_⟩
    obtain rfl : mX2_putInRow = M' := Option.some.inj ((show ab_gM (hb_Gx O X) 519 = some mX2_putInRow from rfl).symm.trans hM')
    exact ⟨fun _ => (hb_w 498 (by decide +kernel)), (hb_w 198 (by decide +kernel)), by decide +kernel, fun _ => ⟨(hb_w 500 (by decide +kernel)), (hb_w 1 (by decide +kernel)), _, rfl, rfl⟩, fun h => absurd h (by decide), fun h => absurd h (by decide), fun h => absurd h (by decide)⟩
  · cases h
    refine ⟨fun h => absurd h (by decide), fun h => absurd h (by decide), fun _ M' hM' => ?_⟩
    obtain rfl : mX2_firstFreeHead = M' := Option.some.inj ((show ab_gM (hb_Gx O X) 523 = some mX2_firstFreeHead from rfl).symm.trans hM')
    exact ⟨fun _ => (hb_w 502 (by decide +kernel)), (hb_w 198 (by decide +kernel)), by decide +kernel, fun _ => ⟨(hb_w 504 (by decide +kernel)), (hb_w 2 (by decide +kernel)), _, rfl, rfl⟩, fun h => absurd h (by decide), fun h => absurd h (by decide), fun h => absurd h (by decide)⟩
  · cases h
    refine ⟨fun h => absurd h (by decide), fun h => absurd h (by decide), fun _ M' hM' => ?_⟩
    obtain rfl : mX2_listLength = M' := Option.some.inj ((show ab_gM (hb_Gx O X) 521 = some mX2_listLength from rfl).symm.trans hM')
    exact ⟨fun _ => (hb_w 506 (by decide +kernel)), (hb_w 198 (by decide +kernel)), by decide +kernel, fun _ => ⟨(hb_w 508 (by decide +kernel)), (hb_w 3 (by decide +kernel)), _, rfl, rfl⟩, fun h => absurd h (by decide), fun h => absurd h (by decide), fun h => absurd h (by decide)⟩
  · cases h
    refine ⟨fun h => absurd h (by decide), fun h => absurd h (by decide), fun _ M' hM' => ?_⟩
    obtain rfl : mX2_inList = M' := Option.some.inj ((show ab_gM (hb_Gx O X) 522 = some mX2_inList from rfl).symm.trans hM')
    exact ⟨fun _ => (hb_w 510 (by decide +kernel)), (hb_w 198 (by decide +kernel)), by decide +kernel, fun _ => ⟨(hb_w 512 (by decide +kernel)), (hb_w 4 (by decide +kernel)), _, rfl, rfl⟩, fun h => absurd h (by decide), fun h => absurd h (by decide), fun h => absurd h (by decide)⟩
  · cases h
    refine ⟨fun h => absurd h (by decide), fun h => absurd h (by decide), fun _ M' hM' => ?_⟩
    obtain rfl : mX2_isBehindAHead = M' := Option.some.inj ((show ab_gM (hb_Gx O X) 524 = some mX2_isBehindAHead from rfl).symm.trans hM')
    exact ⟨fun _ => (hb_w 514 (by decide +kernel)), (hb_w 198 (by decide +kernel)), by decide +kernel, fun _ => ⟨(hb_w 516 (by decide +kernel)), (hb_w 5 (by decide +kernel)), _, rfl, rfl⟩, fun h => absurd h (by decide), fun h => absurd h (by decide), fun h => absurd h (by decide)⟩
  · cases h
theorem hb_T3_ok (O : Nat → Option String) (X : ab_X) : ∀ (ix sort y na ci : Nat), hb_T3 ix = some (sort, y, na, ci) → ∀ M : ab_MI, ab_mo M = 3 → (ab_my M).cls = RX3 →
    (sort = 4 → Cond.methodLink (ab_my M).cls ix objectInit ∈ hb_TB ∧ Cond.instanceMethod objectInit ∈ hb_TB ∧ Cond.code objectInit ⟨#[0xb1]⟩ 1 none ∈ hb_TB) ∧
    (sort = 5 → Cond.methodLink (ab_my M).cls ix arraycopyName ∈ hb_TB ∧ Cond.native arraycopyName ∈ hb_TB ∧ Cond.static arraycopyName ∈ hb_TB ∧ Cond.initialized "java/lang/System" ∈ hb_TB) ∧
    (sort < 4 ∨ sort = 6 → ∀ M' : ab_MI, ab_gM (hb_Gx O X) y = some M' → (sort ≠ 3 → Cond.methodLink (ab_my M).cls ix (ab_my M') ∈ hb_TB) ∧ Cond.initialized (ab_my M').cls ∈ hb_TB ∧ ((ab_my M').cls ≠ "java/lang/invoke/MethodHandle" ∧ (ab_my M').cls ≠ "java/lang/invoke/VarHandle" ∧ (parseMethodDescriptor (ab_my M').desc).map (fun d => d.parameters.length) = some na) ∧
      (sort = 0 → Cond.instanceMethod (ab_my M') ∈ hb_TB ∧ Cond.selects (ab_my M').cls (ab_my M') (ab_my M') ∈ hb_TB ∧ ∃ q : vw_C, (ab_gK (hb_Gx O X))[ci]? = some q ∧ q.1 = (ab_my M').cls) ∧
      (sort = 1 → Cond.static (ab_my M') ∈ hb_TB) ∧
      (sort = 6 → Cond.instanceMethod (ab_my M') ∈ hb_TB ∧ Cond.selects (ab_my M').cls (ab_my M') (ab_my M') ∈ hb_TB ∧ (ab_my M').cls = "java/lang/String") ∧
      (sort = 2 ∨ sort = 3 → (ab_my M').name = "<init>" ∧ Cond.instanceMethod (ab_my M') ∈ hb_TB ∧ ab_mr M' = none)) := by
  intro ix sort y na ci h M _ hcl
  rw [hcl]
  unfold hb_T3 at h
  split at h
  · cases h
    exact ⟨fun _ => ⟨(hb_w 791 (by decide +kernel)), (hb_w 247 (by decide +kernel)), (hb_w 248 (by decide +kernel))⟩, fun h => absurd h (by decide), fun h => absurd h (by decide)⟩
  · cases h
    refine ⟨fun h => absurd h (by decide), fun h => absurd h (by decide), fun _ M' hM' => ?_⟩
    obtain rfl : mX3_plan = M' := Option.some.inj ((show ab_gM (hb_Gx O X) 776 = some mX3_plan from rfl).symm.trans hM')
    exact ⟨fun _ => (hb_w 1638 (by decide +kernel)), (hb_w 211 (by decide +kernel)), by decide +kernel, fun _ => ⟨(hb_w 1640 (by decide +kernel)), (hb_w 56 (by decide +kernel)), _, rfl, rfl⟩, fun h => absurd h (by decide), fun h => absurd h (by decide), fun h => absurd h (by decide)⟩
  · cases h
    refine ⟨fun h => absurd h (by decide), fun h => absurd h (by decide), fun _ M' hM' => ?_⟩
    obtain rfl : mX3_countSets = M' := Option.some.inj ((show ab_gM (hb_Gx O X) 779 = some mX3_countSets from rfl).symm.trans hM')
    exact ⟨fun _ => (hb_w 1653 (by decide +kernel)), (hb_w 211 (by decide +kernel)), by decide +kernel, fun _ => ⟨(hb_w 1655 (by decide +kernel)), (hb_w 58 (by decide +kernel)), _, rfl, rfl⟩, fun h => absurd h (by decide), fun h => absurd h (by decide), fun h => absurd h (by decide)⟩
  · cases h
    refine ⟨fun h => absurd h (by decide), fun h => absurd h (by decide), fun _ M' hM' => ?_⟩
    obtain rfl : mX3_emptySet = M' := Option.some.inj ((show ab_gM (hb_Gx O X) 780 = some mX3_emptySet from rfl).symm.trans hM')
    exact ⟨fun _ => (hb_w 1657 (by decide +kernel)), (hb_w 211 (by decide +kernel)), by decide +kernel, fun _ => ⟨(hb_w 1659 (by decide +kernel)), (hb_w 59 (by decide +kernel)), _, rfl, rfl⟩, fun h => absurd h (by decide), fun h => absurd h (by decide), fun h => absurd h (by decide)⟩
  · cases h
    refine ⟨fun h => absurd h (by decide), fun h => absurd h (by decide), fun _ M' hM' => ?_⟩
    obtain rfl : mX3_makeRoomInSet = M' := Option.some.inj ((show ab_gM (hb_Gx O X) 783 = some mX3_makeRoomInSet from rfl).symm.trans hM')
    exact ⟨fun _ => (hb_w 1665 (by decide +kernel)), (hb_w 211 (by decide +kernel)), by decide +kernel, fun _ => ⟨(hb_w 1667 (by decide +kernel)), (hb_w 61 (by decide +kernel)), _, rfl, rfl⟩, fun h => absurd h (by decide), fun h => absurd h (by decide), fun h => absurd h (by decide)⟩
  · cases h
    refine ⟨fun h => absurd h (by decide), fun h => absurd h (by decide), fun _ M' hM' => ?_⟩
    obtain rfl : mX3_addToSet = M' := Option.some.inj ((show ab_gM (hb_Gx O X) 781 = some mX3_addToSet from rfl).symm.trans hM')
    exact ⟨fun _ => (hb_w 1675 (by decide +kernel)), (hb_w 211 (by decide +kernel)), by decide +kernel, fun _ => ⟨(hb_w 1677 (by decide +kernel)), (hb_w 63 (by decide +kernel)), _, rfl, rfl⟩, fun h => absurd h (by decide), fun h => absurd h (by decide), fun h => absurd h (by decide)⟩
  · cases h
    refine ⟨fun h => absurd h (by decide), fun h => absurd h (by decide), fun _ M' hM' => ?_⟩
    obtain rfl : mX11_methodsOf = M' := Option.some.inj ((show ab_gM (hb_Gx O X) 2827 = some mX11_methodsOf from rfl).symm.trans hM')
    exact ⟨fun _ => (hb_w 1789 (by decide +kernel)), (hb_w 197 (by decide +kernel)), by decide +kernel, fun _ => ⟨(hb_w 1625 (by decide +kernel)), (hb_w 1626 (by decide +kernel)), _, rfl, rfl⟩, fun h => absurd h (by decide), fun h => absurd h (by decide), fun h => absurd h (by decide)⟩
  · cases h
    refine ⟨fun h => absurd h (by decide), fun h => absurd h (by decide), fun _ M' hM' => ?_⟩
    obtain rfl : mX3_looksInTree = M' := Option.some.inj ((show ab_gM (hb_Gx O X) 774 = some mX3_looksInTree from rfl).symm.trans hM')
    exact ⟨fun _ => (hb_w 1790 (by decide +kernel)), (hb_w 211 (by decide +kernel)), by decide +kernel, fun _ => ⟨(hb_w 1792 (by decide +kernel)), (hb_w 73 (by decide +kernel)), _, rfl, rfl⟩, fun h => absurd h (by decide), fun h => absurd h (by decide), fun h => absurd h (by decide)⟩
  · cases h
    refine ⟨fun h => absurd h (by decide), fun h => absurd h (by decide), fun _ M' hM' => ?_⟩
    obtain rfl : mX3_matters = M' := Option.some.inj ((show ab_gM (hb_Gx O X) 775 = some mX3_matters from rfl).symm.trans hM')
    exact ⟨fun _ => (hb_w 1661 (by decide +kernel)), (hb_w 211 (by decide +kernel)), by decide +kernel, fun _ => ⟨(hb_w 1663 (by decide +kernel)), (hb_w 60 (by decide +kernel)), _, rfl, rfl⟩, fun h => absurd h (by decide), fun h => absurd h (by decide), fun h => absurd h (by decide)⟩
  · cases h
    refine ⟨fun h => absurd h (by decide), fun h => absurd h (by decide), fun _ M' hM' => ?_⟩
    obtain rfl : mX3_findLive = M' := Option.some.inj ((show ab_gM (hb_Gx O X) 778 = some mX3_findLive from rfl).symm.trans hM')
    exact ⟨fun _ => (hb_w 1642 (by decide +kernel)), (hb_w 211 (by decide +kernel)), by decide +kernel, fun _ => ⟨(hb_w 1644 (by decide +kernel)), (hb_w 57 (by decide +kernel)), _, rfl, rfl⟩, fun h => absurd h (by decide), fun h => absurd h (by decide), fun h => absurd h (by decide)⟩
  · cases h
    refine ⟨fun h => absurd h (by decide), fun h => absurd h (by decide), fun _ M' hM' => ?_⟩
    obtain rfl : mX3_isOrderOf = M' := Option.some.inj ((show ab_gM (hb_Gx O X) 777 = some mX3_isOrderOf from rfl).symm.trans hM')
    exact ⟨fun _ => (hb_w 1650 (by decide +kernel)), (hb_w 211 (by decide +kernel)), by decide +kernel, fun h => absurd h (by decide), fun _ => (hb_w 1651 (by decide +kernel)), fun h => absurd h (by decide), fun h => absurd h (by decide)⟩
  · cases h
    refine ⟨fun h => absurd h (by decide), fun h => absurd h (by decide), fun _ M' hM' => ?_⟩
    obtain rfl : mX3_spotFor = M' := Option.some.inj ((show ab_gM (hb_Gx O X) 782 = some mX3_spotFor from rfl).symm.trans hM')
    exact ⟨fun _ => (hb_w 1669 (by decide +kernel)), (hb_w 211 (by decide +kernel)), by decide +kernel, fun _ => ⟨(hb_w 1671 (by decide +kernel)), (hb_w 62 (by decide +kernel)), _, rfl, rfl⟩, fun h => absurd h (by decide), fun h => absurd h (by decide), fun h => absurd h (by decide)⟩
  · cases h
theorem hb_T4_ok (O : Nat → Option String) (X : ab_X) : ∀ (ix sort y na ci : Nat), hb_T4 ix = some (sort, y, na, ci) → ∀ M : ab_MI, ab_mo M = 4 → (ab_my M).cls = RX4 →
    (sort = 4 → Cond.methodLink (ab_my M).cls ix objectInit ∈ hb_TB ∧ Cond.instanceMethod objectInit ∈ hb_TB ∧ Cond.code objectInit ⟨#[0xb1]⟩ 1 none ∈ hb_TB) ∧
    (sort = 5 → Cond.methodLink (ab_my M).cls ix arraycopyName ∈ hb_TB ∧ Cond.native arraycopyName ∈ hb_TB ∧ Cond.static arraycopyName ∈ hb_TB ∧ Cond.initialized "java/lang/System" ∈ hb_TB) ∧
    (sort < 4 ∨ sort = 6 → ∀ M' : ab_MI, ab_gM (hb_Gx O X) y = some M' → (sort ≠ 3 → Cond.methodLink (ab_my M).cls ix (ab_my M') ∈ hb_TB) ∧ Cond.initialized (ab_my M').cls ∈ hb_TB ∧ ((ab_my M').cls ≠ "java/lang/invoke/MethodHandle" ∧ (ab_my M').cls ≠ "java/lang/invoke/VarHandle" ∧ (parseMethodDescriptor (ab_my M').desc).map (fun d => d.parameters.length) = some na) ∧
      (sort = 0 → Cond.instanceMethod (ab_my M') ∈ hb_TB ∧ Cond.selects (ab_my M').cls (ab_my M') (ab_my M') ∈ hb_TB ∧ ∃ q : vw_C, (ab_gK (hb_Gx O X))[ci]? = some q ∧ q.1 = (ab_my M').cls) ∧
      (sort = 1 → Cond.static (ab_my M') ∈ hb_TB) ∧
      (sort = 6 → Cond.instanceMethod (ab_my M') ∈ hb_TB ∧ Cond.selects (ab_my M').cls (ab_my M') (ab_my M') ∈ hb_TB ∧ (ab_my M').cls = "java/lang/String") ∧
      (sort = 2 ∨ sort = 3 → (ab_my M').name = "<init>" ∧ Cond.instanceMethod (ab_my M') ∈ hb_TB ∧ ab_mr M' = none)) := by
  intro ix sort y na ci h M _ hcl
  rw [hcl]
  unfold hb_T4 at h
  split at h
  · cases h
    exact ⟨fun _ => ⟨(hb_w 935 (by decide +kernel)), (hb_w 247 (by decide +kernel)), (hb_w 248 (by decide +kernel))⟩, fun h => absurd h (by decide), fun h => absurd h (by decide)⟩
  · cases h
    refine ⟨fun h => absurd h (by decide), fun h => absurd h (by decide), fun _ M' hM' => ?_⟩
    obtain rfl : mX4_beginRun = M' := Option.some.inj ((show ab_gM (hb_Gx O X) 1028 = some mX4_beginRun from rfl).symm.trans hM')
    exact ⟨fun _ => (hb_w 1761 (by decide +kernel)), (hb_w 213 (by decide +kernel)), by decide +kernel, fun _ => ⟨(hb_w 1763 (by decide +kernel)), (hb_w 69 (by decide +kernel)), _, rfl, rfl⟩, fun h => absurd h (by decide), fun h => absurd h (by decide), fun h => absurd h (by decide)⟩
  · cases h
    refine ⟨fun h => absurd h (by decide), fun h => absurd h (by decide), fun _ M' hM' => ?_⟩
    obtain rfl : mX4_finish = M' := Option.some.inj ((show ab_gM (hb_Gx O X) 1029 = some mX4_finish from rfl).symm.trans hM')
    exact ⟨fun _ => (hb_w 1766 (by decide +kernel)), (hb_w 213 (by decide +kernel)), by decide +kernel, fun _ => ⟨(hb_w 1768 (by decide +kernel)), (hb_w 70 (by decide +kernel)), _, rfl, rfl⟩, fun h => absurd h (by decide), fun h => absurd h (by decide), fun h => absurd h (by decide)⟩
  · cases h
    refine ⟨fun h => absurd h (by decide), fun h => absurd h (by decide), fun _ M' hM' => ?_⟩
    obtain rfl : mX4_takeGiven = M' := Option.some.inj ((show ab_gM (hb_Gx O X) 1032 = some mX4_takeGiven from rfl).symm.trans hM')
    exact ⟨fun _ => (hb_w 1770 (by decide +kernel)), (hb_w 213 (by decide +kernel)), by decide +kernel, fun _ => ⟨(hb_w 1772 (by decide +kernel)), (hb_w 71 (by decide +kernel)), _, rfl, rfl⟩, fun h => absurd h (by decide), fun h => absurd h (by decide), fun h => absurd h (by decide)⟩
  · cases h
    refine ⟨fun h => absurd h (by decide), fun h => absurd h (by decide), fun _ M' hM' => ?_⟩
    obtain rfl : mX0_choose = M' := Option.some.inj ((show ab_gM (hb_Gx O X) 4 = some mX0_choose from rfl).symm.trans hM')
    exact ⟨fun _ => (hb_w 1778 (by decide +kernel)), (hb_w 214 (by decide +kernel)), by decide +kernel, fun _ => ⟨(hb_w 1779 (by decide +kernel)), (hb_w 1780 (by decide +kernel)), _, rfl, rfl⟩, fun h => absurd h (by decide), fun h => absurd h (by decide), fun h => absurd h (by decide)⟩
  · cases h
    refine ⟨fun h => absurd h (by decide), fun h => absurd h (by decide), fun _ M' hM' => ?_⟩
    obtain rfl : mX4_beginCall = M' := Option.some.inj ((show ab_gM (hb_Gx O X) 1042 = some mX4_beginCall from rfl).symm.trans hM')
    exact ⟨fun _ => (hb_w 1825 (by decide +kernel)), (hb_w 213 (by decide +kernel)), by decide +kernel, fun _ => ⟨(hb_w 1827 (by decide +kernel)), (hb_w 80 (by decide +kernel)), _, rfl, rfl⟩, fun h => absurd h (by decide), fun h => absurd h (by decide), fun h => absurd h (by decide)⟩
  · cases h
    refine ⟨fun h => absurd h (by decide), fun h => absurd h (by decide), fun _ M' hM' => ?_⟩
    obtain rfl : mX4_goToNext = M' := Option.some.inj ((show ab_gM (hb_Gx O X) 1044 = some mX4_goToNext from rfl).symm.trans hM')
    exact ⟨fun _ => (hb_w 1873 (by decide +kernel)), (hb_w 213 (by decide +kernel)), by decide +kernel, fun _ => ⟨(hb_w 1875 (by decide +kernel)), (hb_w 87 (by decide +kernel)), _, rfl, rfl⟩, fun h => absurd h (by decide), fun h => absurd h (by decide), fun h => absurd h (by decide)⟩
  · cases h
    refine ⟨fun h => absurd h (by decide), fun h => absurd h (by decide), fun _ M' hM' => ?_⟩
    obtain rfl : mX4_pop = M' := Option.some.inj ((show ab_gM (hb_Gx O X) 1031 = some mX4_pop from rfl).symm.trans hM')
    exact ⟨fun _ => (hb_w 1774 (by decide +kernel)), (hb_w 213 (by decide +kernel)), by decide +kernel, fun _ => ⟨(hb_w 1776 (by decide +kernel)), (hb_w 72 (by decide +kernel)), _, rfl, rfl⟩, fun h => absurd h (by decide), fun h => absurd h (by decide), fun h => absurd h (by decide)⟩
  · cases h
    refine ⟨fun h => absurd h (by decide), fun h => absurd h (by decide), fun _ M' hM' => ?_⟩
    obtain rfl : mX4_endMethod = M' := Option.some.inj ((show ab_gM (hb_Gx O X) 1048 = some mX4_endMethod from rfl).symm.trans hM')
    exact ⟨fun _ => (hb_w 1877 (by decide +kernel)), (hb_w 213 (by decide +kernel)), by decide +kernel, fun _ => ⟨(hb_w 1879 (by decide +kernel)), (hb_w 88 (by decide +kernel)), _, rfl, rfl⟩, fun h => absurd h (by decide), fun h => absurd h (by decide), fun h => absurd h (by decide)⟩
  · cases h
    refine ⟨fun h => absurd h (by decide), fun h => absurd h (by decide), fun _ M' hM' => ?_⟩
    obtain rfl : mX4_failWith = M' := Option.some.inj ((show ab_gM (hb_Gx O X) 1040 = some mX4_failWith from rfl).symm.trans hM')
    exact ⟨fun _ => (hb_w 1887 (by decide +kernel)), (hb_w 213 (by decide +kernel)), by decide +kernel, fun _ => ⟨(hb_w 1889 (by decide +kernel)), (hb_w 90 (by decide +kernel)), _, rfl, rfl⟩, fun h => absurd h (by decide), fun h => absurd h (by decide), fun h => absurd h (by decide)⟩
  · cases h
    refine ⟨fun h => absurd h (by decide), fun h => absurd h (by decide), fun _ M' hM' => ?_⟩
    obtain rfl : mX4_obey = M' := Option.some.inj ((show ab_gM (hb_Gx O X) 1033 = some mX4_obey from rfl).symm.trans hM')
    exact ⟨fun _ => (hb_w 1891 (by decide +kernel)), (hb_w 213 (by decide +kernel)), by decide +kernel, fun _ => ⟨(hb_w 1893 (by decide +kernel)), (hb_w 91 (by decide +kernel)), _, rfl, rfl⟩, fun h => absurd h (by decide), fun h => absurd h (by decide), fun h => absurd h (by decide)⟩
  · cases h
    refine ⟨fun h => absurd h (by decide), fun h => absurd h (by decide), fun _ M' hM' => ?_⟩
    obtain rfl : mX4_valueOf = M' := Option.some.inj ((show ab_gM (hb_Gx O X) 1026 = some mX4_valueOf from rfl).symm.trans hM')
    exact ⟨fun _ => (hb_w 1852 (by decide +kernel)), (hb_w 213 (by decide +kernel)), by decide +kernel, fun h => absurd h (by decide), fun _ => (hb_w 1853 (by decide +kernel)), fun h => absurd h (by decide), fun h => absurd h (by decide)⟩
  · cases h
    refine ⟨fun h => absurd h (by decide), fun h => absurd h (by decide), fun _ M' hM' => ?_⟩
    obtain rfl : mX4_push = M' := Option.some.inj ((show ab_gM (hb_Gx O X) 1030 = some mX4_push from rfl).symm.trans hM')
    exact ⟨fun _ => (hb_w 1869 (by decide +kernel)), (hb_w 213 (by decide +kernel)), by decide +kernel, fun _ => ⟨(hb_w 1871 (by decide +kernel)), (hb_w 86 (by decide +kernel)), _, rfl, rfl⟩, fun h => absurd h (by decide), fun h => absurd h (by decide), fun h => absurd h (by decide)⟩
  · cases h
    refine ⟨fun h => absurd h (by decide), fun h => absurd h (by decide), fun _ M' hM' => ?_⟩
    obtain rfl : mX4_without = M' := Option.some.inj ((show ab_gM (hb_Gx O X) 1034 = some mX4_without from rfl).symm.trans hM')
    exact ⟨fun _ => (hb_w 1895 (by decide +kernel)), (hb_w 213 (by decide +kernel)), by decide +kernel, fun h => absurd h (by decide), fun _ => (hb_w 1896 (by decide +kernel)), fun h => absurd h (by decide), fun h => absurd h (by decide)⟩
  · cases h
    refine ⟨fun h => absurd h (by decide), fun h => absurd h (by decide), fun _ M' hM' => ?_⟩
    obtain rfl : mX4_beginTry = M' := Option.some.inj ((show ab_gM (hb_Gx O X) 1038 = some mX4_beginTry from rfl).symm.trans hM')
    exact ⟨fun _ => (hb_w 1899 (by decide +kernel)), (hb_w 213 (by decide +kernel)), by decide +kernel, fun _ => ⟨(hb_w 1901 (by decide +kernel)), (hb_w 92 (by decide +kernel)), _, rfl, rfl⟩, fun h => absurd h (by decide), fun h => absurd h (by decide), fun h => absurd h (by decide)⟩
  · cases h
    refine ⟨fun h => absurd h (by decide), fun h => absurd h (by decide), fun _ M' hM' => ?_⟩
    obtain rfl : mX4_endTry = M' := Option.some.inj ((show ab_gM (hb_Gx O X) 1039 = some mX4_endTry from rfl).symm.trans hM')
    exact ⟨fun _ => (hb_w 1903 (by decide +kernel)), (hb_w 213 (by decide +kernel)), by decide +kernel, fun _ => ⟨(hb_w 1905 (by decide +kernel)), (hb_w 93 (by decide +kernel)), _, rfl, rfl⟩, fun h => absurd h (by decide), fun h => absurd h (by decide), fun h => absurd h (by decide)⟩
  · cases h
    refine ⟨fun h => absurd h (by decide), fun h => absurd h (by decide), fun _ M' hM' => ?_⟩
    obtain rfl : mX4_showTop = M' := Option.some.inj ((show ab_gM (hb_Gx O X) 1037 = some mX4_showTop from rfl).symm.trans hM')
    exact ⟨fun _ => (hb_w 1907 (by decide +kernel)), (hb_w 213 (by decide +kernel)), by decide +kernel, fun _ => ⟨(hb_w 1909 (by decide +kernel)), (hb_w 94 (by decide +kernel)), _, rfl, rfl⟩, fun h => absurd h (by decide), fun h => absurd h (by decide), fun h => absurd h (by decide)⟩
  · cases h
    refine ⟨fun h => absurd h (by decide), fun h => absurd h (by decide), fun _ M' hM' => ?_⟩
    obtain rfl : mX4_reckon = M' := Option.some.inj ((show ab_gM (hb_Gx O X) 1035 = some mX4_reckon from rfl).symm.trans hM')
    exact ⟨fun _ => (hb_w 1911 (by decide +kernel)), (hb_w 213 (by decide +kernel)), by decide +kernel, fun _ => ⟨(hb_w 1913 (by decide +kernel)), (hb_w 95 (by decide +kernel)), _, rfl, rfl⟩, fun h => absurd h (by decide), fun h => absurd h (by decide), fun h => absurd h (by decide)⟩
  · cases h
    refine ⟨fun h => absurd h (by decide), fun h => absurd h (by decide), fun _ M' hM' => ?_⟩
    obtain rfl : mX4_kindOf = M' := Option.some.inj ((show ab_gM (hb_Gx O X) 1025 = some mX4_kindOf from rfl).symm.trans hM')
    exact ⟨fun _ => (hb_w 1915 (by decide +kernel)), (hb_w 213 (by decide +kernel)), by decide +kernel, fun h => absurd h (by decide), fun _ => (hb_w 1783 (by decide +kernel)), fun h => absurd h (by decide), fun h => absurd h (by decide)⟩
  · cases h
    refine ⟨fun h => absurd h (by decide), fun h => absurd h (by decide), fun _ M' hM' => ?_⟩
    obtain rfl : mX2_isBelow = M' := Option.some.inj ((show ab_gM (hb_Gx O X) 513 = some mX2_isBelow from rfl).symm.trans hM')
    exact ⟨fun _ => (hb_w 1916 (by decide +kernel)), (hb_w 198 (by decide +kernel)), by decide +kernel, fun _ => ⟨(hb_w 550 (by decide +kernel)), (hb_w 551 (by decide +kernel)), _, rfl, rfl⟩, fun h => absurd h (by decide), fun h => absurd h (by decide), fun h => absurd h (by decide)⟩
  · cases h
    refine ⟨fun h => absurd h (by decide), fun h => absurd h (by decide), fun _ M' hM' => ?_⟩
    obtain rfl : mX4_joinTwo = M' := Option.some.inj ((show ab_gM (hb_Gx O X) 1036 = some mX4_joinTwo from rfl).symm.trans hM')
    exact ⟨fun _ => (hb_w 1917 (by decide +kernel)), (hb_w 213 (by decide +kernel)), by decide +kernel, fun h => absurd h (by decide), fun _ => (hb_w 1918 (by decide +kernel)), fun h => absurd h (by decide), fun h => absurd h (by decide)⟩
  · cases h
    refine ⟨fun h => absurd h (by decide), fun h => absurd h (by decide), fun _ M' hM' => ?_⟩
    obtain rfl : mX0_rowSize = M' := Option.some.inj ((show ab_gM (hb_Gx O X) 1 = some mX0_rowSize from rfl).symm.trans hM')
    exact ⟨fun _ => (hb_w 1829 (by decide +kernel)), (hb_w 214 (by decide +kernel)), by decide +kernel, fun _ => ⟨(hb_w 1830 (by decide +kernel)), (hb_w 1831 (by decide +kernel)), _, rfl, rfl⟩, fun h => absurd h (by decide), fun h => absurd h (by decide), fun h => absurd h (by decide)⟩
  · cases h
    refine ⟨fun h => absurd h (by decide), fun h => absurd h (by decide), fun _ M' hM' => ?_⟩
    obtain rfl : mX4_beginMethod = M' := Option.some.inj ((show ab_gM (hb_Gx O X) 1043 = some mX4_beginMethod from rfl).symm.trans hM')
    exact ⟨fun _ => (hb_w 1833 (by decide +kernel)), (hb_w 213 (by decide +kernel)), by decide +kernel, fun _ => ⟨(hb_w 1835 (by decide +kernel)), (hb_w 81 (by decide +kernel)), _, rfl, rfl⟩, fun h => absurd h (by decide), fun h => absurd h (by decide), fun h => absurd h (by decide)⟩
  · cases h
    refine ⟨fun h => absurd h (by decide), fun h => absurd h (by decide), fun _ M' hM' => ?_⟩
    obtain rfl : mX0_endsWithSeveral = M' := Option.some.inj ((show ab_gM (hb_Gx O X) 2 = some mX0_endsWithSeveral from rfl).symm.trans hM')
    exact ⟨fun _ => (hb_w 1842 (by decide +kernel)), (hb_w 214 (by decide +kernel)), by decide +kernel, fun _ => ⟨(hb_w 1843 (by decide +kernel)), (hb_w 1844 (by decide +kernel)), _, rfl, rfl⟩, fun h => absurd h (by decide), fun h => absurd h (by decide), fun h => absurd h (by decide)⟩
  · cases h
    refine ⟨fun h => absurd h (by decide), fun h => absurd h (by decide), fun _ M' hM' => ?_⟩
    obtain rfl : mX4_beginInside = M' := Option.some.inj ((show ab_gM (hb_Gx O X) 1045 = some mX4_beginInside from rfl).symm.trans hM')
    exact ⟨fun _ => (hb_w 1846 (by decide +kernel)), (hb_w 213 (by decide +kernel)), by decide +kernel, fun _ => ⟨(hb_w 1848 (by decide +kernel)), (hb_w 82 (by decide +kernel)), _, rfl, rfl⟩, fun h => absurd h (by decide), fun h => absurd h (by decide), fun h => absurd h (by decide)⟩
  · cases h
    refine ⟨fun h => absurd h (by decide), fun h => absurd h (by decide), fun _ M' hM' => ?_⟩
    obtain rfl : mX0_inRow = M' := Option.some.inj ((show ab_gM (hb_Gx O X) 3 = some mX0_inRow from rfl).symm.trans hM')
    exact ⟨fun _ => (hb_w 1837 (by decide +kernel)), (hb_w 214 (by decide +kernel)), by decide +kernel, fun _ => ⟨(hb_w 1838 (by decide +kernel)), (hb_w 1839 (by decide +kernel)), _, rfl, rfl⟩, fun h => absurd h (by decide), fun h => absurd h (by decide), fun h => absurd h (by decide)⟩
  · cases h
    exact ⟨fun h => absurd h (by decide), fun _ => ⟨(hb_w 1841 (by decide +kernel)), (hb_w 1162 (by decide +kernel)), (hb_w 1161 (by decide +kernel)), (hb_w 232 (by decide +kernel))⟩, fun h => absurd h (by decide)⟩
  · cases h
    refine ⟨fun h => absurd h (by decide), fun h => absurd h (by decide), fun _ M' hM' => ?_⟩
    obtain rfl : mX4_inFrame = M' := Option.some.inj ((show ab_gM (hb_Gx O X) 1041 = some mX4_inFrame from rfl).symm.trans hM')
    exact ⟨fun _ => (hb_w 1860 (by decide +kernel)), (hb_w 213 (by decide +kernel)), by decide +kernel, fun _ => ⟨(hb_w 1862 (by decide +kernel)), (hb_w 84 (by decide +kernel)), _, rfl, rfl⟩, fun h => absurd h (by decide), fun h => absurd h (by decide), fun h => absurd h (by decide)⟩
  · cases h
    refine ⟨fun h => absurd h (by decide), fun h => absurd h (by decide), fun _ M' hM' => ?_⟩
    obtain rfl : mX4_goOnInside = M' := Option.some.inj ((show ab_gM (hb_Gx O X) 1046 = some mX4_goOnInside from rfl).symm.trans hM')
    exact ⟨fun _ => (hb_w 1856 (by decide +kernel)), (hb_w 213 (by decide +kernel)), by decide +kernel, fun _ => ⟨(hb_w 1858 (by decide +kernel)), (hb_w 83 (by decide +kernel)), _, rfl, rfl⟩, fun h => absurd h (by decide), fun h => absurd h (by decide), fun h => absurd h (by decide)⟩
  · cases h
    refine ⟨fun h => absurd h (by decide), fun h => absurd h (by decide), fun _ M' hM' => ?_⟩
    obtain rfl : mX4_plainTurns = M' := Option.some.inj ((show ab_gM (hb_Gx O X) 1047 = some mX4_plainTurns from rfl).symm.trans hM')
    exact ⟨fun _ => (hb_w 1864 (by decide +kernel)), (hb_w 213 (by decide +kernel)), by decide +kernel, fun _ => ⟨(hb_w 1866 (by decide +kernel)), (hb_w 85 (by decide +kernel)), _, rfl, rfl⟩, fun h => absurd h (by decide), fun h => absurd h (by decide), fun h => absurd h (by decide)⟩
  · cases h
    refine ⟨fun h => absurd h (by decide), fun h => absurd h (by decide), fun _ M' hM' => ?_⟩
    obtain rfl : mX4_joinValue = M' := Option.some.inj ((show ab_gM (hb_Gx O X) 1049 = some mX4_joinValue from rfl).symm.trans hM')
    exact ⟨fun _ => (hb_w 1881 (by decide +kernel)), (hb_w 213 (by decide +kernel)), by decide +kernel, fun _ => ⟨(hb_w 1883 (by decide +kernel)), (hb_w 89 (by decide +kernel)), _, rfl, rfl⟩, fun h => absurd h (by decide), fun h => absurd h (by decide), fun h => absurd h (by decide)⟩
  · cases h
    refine ⟨fun h => absurd h (by decide), fun h => absurd h (by decide), fun _ M' hM' => ?_⟩
    obtain rfl : mJ9_min_7cf53 = M' := Option.some.inj ((show ab_gM (hb_Gx O X) 9217 = some mJ9_min_7cf53 from rfl).symm.trans hM')
    exact ⟨fun _ => (hb_w 1885 (by decide +kernel)), (hb_w 231 (by decide +kernel)), by decide +kernel, fun h => absurd h (by decide), fun _ => (hb_w 1112 (by decide +kernel)), fun h => absurd h (by decide), fun h => absurd h (by decide)⟩
  · cases h
theorem hb_T5_ok (O : Nat → Option String) (X : ab_X) : ∀ (ix sort y na ci : Nat), hb_T5 ix = some (sort, y, na, ci) → ∀ M : ab_MI, ab_mo M = 5 → (ab_my M).cls = RX5 →
    (sort = 4 → Cond.methodLink (ab_my M).cls ix objectInit ∈ hb_TB ∧ Cond.instanceMethod objectInit ∈ hb_TB ∧ Cond.code objectInit ⟨#[0xb1]⟩ 1 none ∈ hb_TB) ∧
    (sort = 5 → Cond.methodLink (ab_my M).cls ix arraycopyName ∈ hb_TB ∧ Cond.native arraycopyName ∈ hb_TB ∧ Cond.static arraycopyName ∈ hb_TB ∧ Cond.initialized "java/lang/System" ∈ hb_TB) ∧
    (sort < 4 ∨ sort = 6 → ∀ M' : ab_MI, ab_gM (hb_Gx O X) y = some M' → (sort ≠ 3 → Cond.methodLink (ab_my M).cls ix (ab_my M') ∈ hb_TB) ∧ Cond.initialized (ab_my M').cls ∈ hb_TB ∧ ((ab_my M').cls ≠ "java/lang/invoke/MethodHandle" ∧ (ab_my M').cls ≠ "java/lang/invoke/VarHandle" ∧ (parseMethodDescriptor (ab_my M').desc).map (fun d => d.parameters.length) = some na) ∧
      (sort = 0 → Cond.instanceMethod (ab_my M') ∈ hb_TB ∧ Cond.selects (ab_my M').cls (ab_my M') (ab_my M') ∈ hb_TB ∧ ∃ q : vw_C, (ab_gK (hb_Gx O X))[ci]? = some q ∧ q.1 = (ab_my M').cls) ∧
      (sort = 1 → Cond.static (ab_my M') ∈ hb_TB) ∧
      (sort = 6 → Cond.instanceMethod (ab_my M') ∈ hb_TB ∧ Cond.selects (ab_my M').cls (ab_my M') (ab_my M') ∈ hb_TB ∧ (ab_my M').cls = "java/lang/String") ∧
      (sort = 2 ∨ sort = 3 → (ab_my M').name = "<init>" ∧ Cond.instanceMethod (ab_my M') ∈ hb_TB ∧ ab_mr M' = none)) := by
  intro ix sort y na ci h M _ hcl
  rw [hcl]
  unfold hb_T5 at h
  split at h
  · cases h
    exact ⟨fun _ => ⟨(hb_w 297 (by decide +kernel)), (hb_w 247 (by decide +kernel)), (hb_w 248 (by decide +kernel))⟩, fun h => absurd h (by decide), fun h => absurd h (by decide)⟩
  · cases h
    refine ⟨fun h => absurd h (by decide), fun h => absurd h (by decide), fun _ M' hM' => ?_⟩
    obtain rfl : mX5_sameKinds = M' := Option.some.inj ((show ab_gM (hb_Gx O X) 1285 = some mX5_sameKinds from rfl).symm.trans hM')
    exact ⟨fun _ => (hb_w 1351 (by decide +kernel)), (hb_w 199 (by decide +kernel)), by decide +kernel, fun _ => ⟨(hb_w 1352 (by decide +kernel)), (hb_w 1353 (by decide +kernel)), _, rfl, rfl⟩, fun h => absurd h (by decide), fun h => absurd h (by decide), fun h => absurd h (by decide)⟩
  · cases h
    refine ⟨fun h => absurd h (by decide), fun h => absurd h (by decide), fun _ M' hM' => ?_⟩
    obtain rfl : mX5_sameEquals = M' := Option.some.inj ((show ab_gM (hb_Gx O X) 1286 = some mX5_sameEquals from rfl).symm.trans hM')
    exact ⟨fun _ => (hb_w 1355 (by decide +kernel)), (hb_w 199 (by decide +kernel)), by decide +kernel, fun _ => ⟨(hb_w 1357 (by decide +kernel)), (hb_w 47 (by decide +kernel)), _, rfl, rfl⟩, fun h => absurd h (by decide), fun h => absurd h (by decide), fun h => absurd h (by decide)⟩
  · cases h
theorem hb_T6_ok (O : Nat → Option String) (X : ab_X) : ∀ (ix sort y na ci : Nat), hb_T6 ix = some (sort, y, na, ci) → ∀ M : ab_MI, ab_mo M = 6 → (ab_my M).cls = RX6 →
    (sort = 4 → Cond.methodLink (ab_my M).cls ix objectInit ∈ hb_TB ∧ Cond.instanceMethod objectInit ∈ hb_TB ∧ Cond.code objectInit ⟨#[0xb1]⟩ 1 none ∈ hb_TB) ∧
    (sort = 5 → Cond.methodLink (ab_my M).cls ix arraycopyName ∈ hb_TB ∧ Cond.native arraycopyName ∈ hb_TB ∧ Cond.static arraycopyName ∈ hb_TB ∧ Cond.initialized "java/lang/System" ∈ hb_TB) ∧
    (sort < 4 ∨ sort = 6 → ∀ M' : ab_MI, ab_gM (hb_Gx O X) y = some M' → (sort ≠ 3 → Cond.methodLink (ab_my M).cls ix (ab_my M') ∈ hb_TB) ∧ Cond.initialized (ab_my M').cls ∈ hb_TB ∧ ((ab_my M').cls ≠ "java/lang/invoke/MethodHandle" ∧ (ab_my M').cls ≠ "java/lang/invoke/VarHandle" ∧ (parseMethodDescriptor (ab_my M').desc).map (fun d => d.parameters.length) = some na) ∧
      (sort = 0 → Cond.instanceMethod (ab_my M') ∈ hb_TB ∧ Cond.selects (ab_my M').cls (ab_my M') (ab_my M') ∈ hb_TB ∧ ∃ q : vw_C, (ab_gK (hb_Gx O X))[ci]? = some q ∧ q.1 = (ab_my M').cls) ∧
      (sort = 1 → Cond.static (ab_my M') ∈ hb_TB) ∧
      (sort = 6 → Cond.instanceMethod (ab_my M') ∈ hb_TB ∧ Cond.selects (ab_my M').cls (ab_my M') (ab_my M') ∈ hb_TB ∧ (ab_my M').cls = "java/lang/String") ∧
      (sort = 2 ∨ sort = 3 → (ab_my M').name = "<init>" ∧ Cond.instanceMethod (ab_my M') ∈ hb_TB ∧ ab_mr M' = none)) := by
  intro ix sort y na ci h M _ hcl
  rw [hcl]
  unfold hb_T6 at h
  split at h
  · cases h
    exact ⟨fun _ => ⟨(hb_w 730 (by decide +kernel)), (hb_w 247 (by decide +kernel)), (hb_w 248 (by decide +kernel))⟩, fun h => absurd h (by decide), fun h => absurd h (by decide)⟩
  · cases h
    refine ⟨fun h => absurd h (by decide), fun h => absurd h (by decide), fun _ M' hM' => ?_⟩
    obtain rfl : mX9_init = M' := Option.some.inj ((show ab_gM (hb_Gx O X) 2304 = some mX9_init from rfl).symm.trans hM')
    exact ⟨fun _ => (hb_w 733 (by decide +kernel)), (hb_w 210 (by decide +kernel)), by decide +kernel, fun h => absurd h (by decide), fun h => absurd h (by decide), fun h => absurd h (by decide), fun _ => ⟨rfl, (hb_w 734 (by decide +kernel)), rfl⟩⟩
  · cases h
    refine ⟨fun h => absurd h (by decide), fun h => absurd h (by decide), fun _ M' hM' => ?_⟩
    obtain rfl : mJ7_fill_53178 = M' := Option.some.inj ((show ab_gM (hb_Gx O X) 11265 = some mJ7_fill_53178 from rfl).symm.trans hM')
    exact ⟨fun _ => (hb_w 1388 (by decide +kernel)), (hb_w 207 (by decide +kernel)), by decide +kernel, fun h => absurd h (by decide), fun _ => (hb_w 496 (by decide +kernel)), fun h => absurd h (by decide), fun h => absurd h (by decide)⟩
  · cases h
    refine ⟨fun h => absurd h (by decide), fun h => absurd h (by decide), fun _ M' hM' => ?_⟩
    obtain rfl : mX5_sameKinds = M' := Option.some.inj ((show ab_gM (hb_Gx O X) 1285 = some mX5_sameKinds from rfl).symm.trans hM')
    exact ⟨fun _ => (hb_w 1559 (by decide +kernel)), (hb_w 199 (by decide +kernel)), by decide +kernel, fun _ => ⟨(hb_w 1352 (by decide +kernel)), (hb_w 1353 (by decide +kernel)), _, rfl, rfl⟩, fun h => absurd h (by decide), fun h => absurd h (by decide), fun h => absurd h (by decide)⟩
  · cases h
    refine ⟨fun h => absurd h (by decide), fun h => absurd h (by decide), fun _ M' hM' => ?_⟩
    obtain rfl : mX6_whoAsksMore = M' := Option.some.inj ((show ab_gM (hb_Gx O X) 1539 = some mX6_whoAsksMore from rfl).symm.trans hM')
    exact ⟨fun _ => (hb_w 1560 (by decide +kernel)), (hb_w 209 (by decide +kernel)), by decide +kernel, fun _ => ⟨(hb_w 1562 (by decide +kernel)), (hb_w 51 (by decide +kernel)), _, rfl, rfl⟩, fun h => absurd h (by decide), fun h => absurd h (by decide), fun h => absurd h (by decide)⟩
  · cases h
    refine ⟨fun h => absurd h (by decide), fun h => absurd h (by decide), fun _ M' hM' => ?_⟩
    obtain rfl : mX2_spotInRow = M' := Option.some.inj ((show ab_gM (hb_Gx O X) 515 = some mX2_spotInRow from rfl).symm.trans hM')
    exact ⟨fun _ => (hb_w 1610 (by decide +kernel)), (hb_w 198 (by decide +kernel)), by decide +kernel, fun _ => ⟨(hb_w 1611 (by decide +kernel)), (hb_w 1612 (by decide +kernel)), _, rfl, rfl⟩, fun h => absurd h (by decide), fun h => absurd h (by decide), fun h => absurd h (by decide)⟩
  · cases h
    refine ⟨fun h => absurd h (by decide), fun h => absurd h (by decide), fun _ M' hM' => ?_⟩
    obtain rfl : mX2_isBelow = M' := Option.some.inj ((show ab_gM (hb_Gx O X) 513 = some mX2_isBelow from rfl).symm.trans hM')
    exact ⟨fun _ => (hb_w 1572 (by decide +kernel)), (hb_w 198 (by decide +kernel)), by decide +kernel, fun _ => ⟨(hb_w 550 (by decide +kernel)), (hb_w 551 (by decide +kernel)), _, rfl, rfl⟩, fun h => absurd h (by decide), fun h => absurd h (by decide), fun h => absurd h (by decide)⟩
  · cases h
    refine ⟨fun h => absurd h (by decide), fun h => absurd h (by decide), fun _ M' hM' => ?_⟩
    obtain rfl : mJ6_compare_7cf53 = M' := Option.some.inj ((show ab_gM (hb_Gx O X) 8448 = some mJ6_compare_7cf53 from rfl).symm.trans hM')
    exact ⟨fun _ => (hb_w 1614 (by decide +kernel)), (hb_w 206 (by decide +kernel)), by decide +kernel, fun h => absurd h (by decide), fun _ => (hb_w 1615 (by decide +kernel)), fun h => absurd h (by decide), fun h => absurd h (by decide)⟩
  · cases h
    refine ⟨fun h => absurd h (by decide), fun h => absurd h (by decide), fun _ M' hM' => ?_⟩
    obtain rfl : mX5_asked = M' := Option.some.inj ((show ab_gM (hb_Gx O X) 1284 = some mX5_asked from rfl).symm.trans hM')
    exact ⟨fun _ => (hb_w 1564 (by decide +kernel)), (hb_w 199 (by decide +kernel)), by decide +kernel, fun _ => ⟨(hb_w 1565 (by decide +kernel)), (hb_w 1566 (by decide +kernel)), _, rfl, rfl⟩, fun h => absurd h (by decide), fun h => absurd h (by decide), fun h => absurd h (by decide)⟩
  · cases h
    refine ⟨fun h => absurd h (by decide), fun h => absurd h (by decide), fun _ M' hM' => ?_⟩
    obtain rfl : mX6_isTests = M' := Option.some.inj ((show ab_gM (hb_Gx O X) 1540 = some mX6_isTests from rfl).symm.trans hM')
    exact ⟨fun _ => (hb_w 1568 (by decide +kernel)), (hb_w 209 (by decide +kernel)), by decide +kernel, fun _ => ⟨(hb_w 1570 (by decide +kernel)), (hb_w 52 (by decide +kernel)), _, rfl, rfl⟩, fun h => absurd h (by decide), fun h => absurd h (by decide), fun h => absurd h (by decide)⟩
  · cases h
    refine ⟨fun h => absurd h (by decide), fun h => absurd h (by decide), fun _ M' hM' => ?_⟩
    obtain rfl : mX9_empty = M' := Option.some.inj ((show ab_gM (hb_Gx O X) 2305 = some mX9_empty from rfl).symm.trans hM')
    exact ⟨fun _ => (hb_w 1573 (by decide +kernel)), (hb_w 210 (by decide +kernel)), by decide +kernel, fun _ => ⟨(hb_w 1574 (by decide +kernel)), (hb_w 1575 (by decide +kernel)), _, rfl, rfl⟩, fun h => absurd h (by decide), fun h => absurd h (by decide), fun h => absurd h (by decide)⟩
  · cases h
    refine ⟨fun h => absurd h (by decide), fun h => absurd h (by decide), fun _ M' hM' => ?_⟩
    obtain rfl : mX9_cutBy = M' := Option.some.inj ((show ab_gM (hb_Gx O X) 2306 = some mX9_cutBy from rfl).symm.trans hM')
    exact ⟨fun _ => (hb_w 1577 (by decide +kernel)), (hb_w 210 (by decide +kernel)), by decide +kernel, fun _ => ⟨(hb_w 1578 (by decide +kernel)), (hb_w 1579 (by decide +kernel)), _, rfl, rfl⟩, fun h => absurd h (by decide), fun h => absurd h (by decide), fun h => absurd h (by decide)⟩
  · cases h
    refine ⟨fun h => absurd h (by decide), fun h => absurd h (by decide), fun _ M' hM' => ?_⟩
    obtain rfl : mX9_begin = M' := Option.some.inj ((show ab_gM (hb_Gx O X) 2308 = some mX9_begin from rfl).symm.trans hM')
    exact ⟨fun _ => (hb_w 1587 (by decide +kernel)), (hb_w 210 (by decide +kernel)), by decide +kernel, fun _ => ⟨(hb_w 1588 (by decide +kernel)), (hb_w 1589 (by decide +kernel)), _, rfl, rfl⟩, fun h => absurd h (by decide), fun h => absurd h (by decide), fun h => absurd h (by decide)⟩
  · cases h
    refine ⟨fun h => absurd h (by decide), fun h => absurd h (by decide), fun _ M' hM' => ?_⟩
    obtain rfl : mX9_toNextCell = M' := Option.some.inj ((show ab_gM (hb_Gx O X) 2309 = some mX9_toNextCell from rfl).symm.trans hM')
    exact ⟨fun _ => (hb_w 1592 (by decide +kernel)), (hb_w 210 (by decide +kernel)), by decide +kernel, fun _ => ⟨(hb_w 1593 (by decide +kernel)), (hb_w 1594 (by decide +kernel)), _, rfl, rfl⟩, fun h => absurd h (by decide), fun h => absurd h (by decide), fun h => absurd h (by decide)⟩
  · cases h
    refine ⟨fun h => absurd h (by decide), fun h => absurd h (by decide), fun _ M' hM' => ?_⟩
    obtain rfl : mX9_isTakenBy = M' := Option.some.inj ((show ab_gM (hb_Gx O X) 2311 = some mX9_isTakenBy from rfl).symm.trans hM')
    exact ⟨fun _ => (hb_w 1601 (by decide +kernel)), (hb_w 210 (by decide +kernel)), by decide +kernel, fun _ => ⟨(hb_w 1602 (by decide +kernel)), (hb_w 1603 (by decide +kernel)), _, rfl, rfl⟩, fun h => absurd h (by decide), fun h => absurd h (by decide), fun h => absurd h (by decide)⟩
  · cases h
theorem hb_T7_ok (O : Nat → Option String) (X : ab_X) : ∀ (ix sort y na ci : Nat), hb_T7 ix = some (sort, y, na, ci) → ∀ M : ab_MI, ab_mo M = 7 → (ab_my M).cls = RX7 →
    (sort = 4 → Cond.methodLink (ab_my M).cls ix objectInit ∈ hb_TB ∧ Cond.instanceMethod objectInit ∈ hb_TB ∧ Cond.code objectInit ⟨#[0xb1]⟩ 1 none ∈ hb_TB) ∧
    (sort = 5 → Cond.methodLink (ab_my M).cls ix arraycopyName ∈ hb_TB ∧ Cond.native arraycopyName ∈ hb_TB ∧ Cond.static arraycopyName ∈ hb_TB ∧ Cond.initialized "java/lang/System" ∈ hb_TB) ∧
    (sort < 4 ∨ sort = 6 → ∀ M' : ab_MI, ab_gM (hb_Gx O X) y = some M' → (sort ≠ 3 → Cond.methodLink (ab_my M).cls ix (ab_my M') ∈ hb_TB) ∧ Cond.initialized (ab_my M').cls ∈ hb_TB ∧ ((ab_my M').cls ≠ "java/lang/invoke/MethodHandle" ∧ (ab_my M').cls ≠ "java/lang/invoke/VarHandle" ∧ (parseMethodDescriptor (ab_my M').desc).map (fun d => d.parameters.length) = some na) ∧
      (sort = 0 → Cond.instanceMethod (ab_my M') ∈ hb_TB ∧ Cond.selects (ab_my M').cls (ab_my M') (ab_my M') ∈ hb_TB ∧ ∃ q : vw_C, (ab_gK (hb_Gx O X))[ci]? = some q ∧ q.1 = (ab_my M').cls) ∧
      (sort = 1 → Cond.static (ab_my M') ∈ hb_TB) ∧
      (sort = 6 → Cond.instanceMethod (ab_my M') ∈ hb_TB ∧ Cond.selects (ab_my M').cls (ab_my M') (ab_my M') ∈ hb_TB ∧ (ab_my M').cls = "java/lang/String") ∧
      (sort = 2 ∨ sort = 3 → (ab_my M').name = "<init>" ∧ Cond.instanceMethod (ab_my M') ∈ hb_TB ∧ ab_mr M' = none)) := by
  intro ix sort y na ci h M _ hcl
  rw [hcl]
  unfold hb_T7 at h
  split at h
  · cases h
    exact ⟨fun _ => ⟨(hb_w 656 (by decide +kernel)), (hb_w 247 (by decide +kernel)), (hb_w 248 (by decide +kernel))⟩, fun h => absurd h (by decide), fun h => absurd h (by decide)⟩
  · cases h
    refine ⟨fun h => absurd h (by decide), fun h => absurd h (by decide), fun _ M' hM' => ?_⟩
    obtain rfl : mX8_init = M' := Option.some.inj ((show ab_gM (hb_Gx O X) 2048 = some mX8_init from rfl).symm.trans hM')
    exact ⟨fun h => absurd rfl h, (hb_w 201 (by decide +kernel)), by decide +kernel, fun h => absurd h (by decide), fun h => absurd h (by decide), fun h => absurd h (by decide), fun _ => ⟨rfl, (hb_w 660 (by decide +kernel)), rfl⟩⟩
  · cases h
    refine ⟨fun h => absurd h (by decide), fun h => absurd h (by decide), fun _ M' hM' => ?_⟩
    obtain rfl : mX8_cut = M' := Option.some.inj ((show ab_gM (hb_Gx O X) 2049 = some mX8_cut from rfl).symm.trans hM')
    exact ⟨fun _ => (hb_w 1054 (by decide +kernel)), (hb_w 201 (by decide +kernel)), by decide +kernel, fun _ => ⟨(hb_w 1055 (by decide +kernel)), (hb_w 1056 (by decide +kernel)), _, rfl, rfl⟩, fun h => absurd h (by decide), fun h => absurd h (by decide), fun h => absurd h (by decide)⟩
  · cases h
    refine ⟨fun h => absurd h (by decide), fun h => absurd h (by decide), fun _ M' hM' => ?_⟩
    obtain rfl : mX7_begin = M' := Option.some.inj ((show ab_gM (hb_Gx O X) 1795 = some mX7_begin from rfl).symm.trans hM')
    exact ⟨fun _ => (hb_w 1152 (by decide +kernel)), (hb_w 208 (by decide +kernel)), by decide +kernel, fun _ => ⟨(hb_w 1154 (by decide +kernel)), (hb_w 14 (by decide +kernel)), _, rfl, rfl⟩, fun h => absurd h (by decide), fun h => absurd h (by decide), fun h => absurd h (by decide)⟩
  · cases h
    refine ⟨fun h => absurd h (by decide), fun h => absurd h (by decide), fun _ M' hM' => ?_⟩
    obtain rfl : mX11_keep = M' := Option.some.inj ((show ab_gM (hb_Gx O X) 2823 = some mX11_keep from rfl).symm.trans hM')
    exact ⟨fun _ => (hb_w 1156 (by decide +kernel)), (hb_w 197 (by decide +kernel)), by decide +kernel, fun _ => ⟨(hb_w 1157 (by decide +kernel)), (hb_w 1158 (by decide +kernel)), _, rfl, rfl⟩, fun h => absurd h (by decide), fun h => absurd h (by decide), fun h => absurd h (by decide)⟩
  · cases h
    refine ⟨fun h => absurd h (by decide), fun h => absurd h (by decide), fun _ M' hM' => ?_⟩
    obtain rfl : mX7_sign = M' := Option.some.inj ((show ab_gM (hb_Gx O X) 1798 = some mX7_sign from rfl).symm.trans hM')
    exact ⟨fun _ => (hb_w 1163 (by decide +kernel)), (hb_w 208 (by decide +kernel)), by decide +kernel, fun _ => ⟨(hb_w 1165 (by decide +kernel)), (hb_w 15 (by decide +kernel)), _, rfl, rfl⟩, fun h => absurd h (by decide), fun h => absurd h (by decide), fun h => absurd h (by decide)⟩
  · cases h
    refine ⟨fun h => absurd h (by decide), fun h => absurd h (by decide), fun _ M' hM' => ?_⟩
    obtain rfl : mX7_readKind = M' := Option.some.inj ((show ab_gM (hb_Gx O X) 1803 = some mX7_readKind from rfl).symm.trans hM')
    exact ⟨fun _ => (hb_w 1167 (by decide +kernel)), (hb_w 208 (by decide +kernel)), by decide +kernel, fun _ => ⟨(hb_w 1169 (by decide +kernel)), (hb_w 16 (by decide +kernel)), _, rfl, rfl⟩, fun h => absurd h (by decide), fun h => absurd h (by decide), fun h => absurd h (by decide)⟩
  · cases h
    refine ⟨fun h => absurd h (by decide), fun h => absurd h (by decide), fun _ M' hM' => ?_⟩
    obtain rfl : mX7_readCall = M' := Option.some.inj ((show ab_gM (hb_Gx O X) 1804 = some mX7_readCall from rfl).symm.trans hM')
    exact ⟨fun _ => (hb_w 1208 (by decide +kernel)), (hb_w 208 (by decide +kernel)), by decide +kernel, fun _ => ⟨(hb_w 1210 (by decide +kernel)), (hb_w 22 (by decide +kernel)), _, rfl, rfl⟩, fun h => absurd h (by decide), fun h => absurd h (by decide), fun h => absurd h (by decide)⟩
  · cases h
    refine ⟨fun h => absurd h (by decide), fun h => absurd h (by decide), fun _ M' hM' => ?_⟩
    obtain rfl : mX7_readLayer = M' := Option.some.inj ((show ab_gM (hb_Gx O X) 1805 = some mX7_readLayer from rfl).symm.trans hM')
    exact ⟨fun _ => (hb_w 1213 (by decide +kernel)), (hb_w 208 (by decide +kernel)), by decide +kernel, fun _ => ⟨(hb_w 1215 (by decide +kernel)), (hb_w 23 (by decide +kernel)), _, rfl, rfl⟩, fun h => absurd h (by decide), fun h => absurd h (by decide), fun h => absurd h (by decide)⟩
  · cases h
    refine ⟨fun h => absurd h (by decide), fun h => absurd h (by decide), fun _ M' hM' => ?_⟩
    obtain rfl : mX7_readMethod = M' := Option.some.inj ((show ab_gM (hb_Gx O X) 1806 = some mX7_readMethod from rfl).symm.trans hM')
    exact ⟨fun _ => (hb_w 1217 (by decide +kernel)), (hb_w 208 (by decide +kernel)), by decide +kernel, fun _ => ⟨(hb_w 1219 (by decide +kernel)), (hb_w 24 (by decide +kernel)), _, rfl, rfl⟩, fun h => absurd h (by decide), fun h => absurd h (by decide), fun h => absurd h (by decide)⟩
  · cases h
    refine ⟨fun h => absurd h (by decide), fun h => absurd h (by decide), fun _ M' hM' => ?_⟩
    obtain rfl : mX7_take = M' := Option.some.inj ((show ab_gM (hb_Gx O X) 1799 = some mX7_take from rfl).symm.trans hM')
    exact ⟨fun _ => (hb_w 1171 (by decide +kernel)), (hb_w 208 (by decide +kernel)), by decide +kernel, fun _ => ⟨(hb_w 1173 (by decide +kernel)), (hb_w 17 (by decide +kernel)), _, rfl, rfl⟩, fun h => absurd h (by decide), fun h => absurd h (by decide), fun h => absurd h (by decide)⟩
  · cases h
    refine ⟨fun h => absurd h (by decide), fun h => absurd h (by decide), fun _ M' hM' => ?_⟩
    obtain rfl : mX7_isClean = M' := Option.some.inj ((show ab_gM (hb_Gx O X) 1796 = some mX7_isClean from rfl).symm.trans hM')
    exact ⟨fun _ => (hb_w 1202 (by decide +kernel)), (hb_w 208 (by decide +kernel)), by decide +kernel, fun _ => ⟨(hb_w 1204 (by decide +kernel)), (hb_w 21 (by decide +kernel)), _, rfl, rfl⟩, fun h => absurd h (by decide), fun h => absurd h (by decide), fun h => absurd h (by decide)⟩
  · cases h
    refine ⟨fun h => absurd h (by decide), fun h => absurd h (by decide), fun _ M' hM' => ?_⟩
    obtain rfl : mX11_takeStock = M' := Option.some.inj ((show ab_gM (hb_Gx O X) 2825 = some mX11_takeStock from rfl).symm.trans hM')
    exact ⟨fun _ => (hb_w 1359 (by decide +kernel)), (hb_w 197 (by decide +kernel)), by decide +kernel, fun _ => ⟨(hb_w 535 (by decide +kernel)), (hb_w 536 (by decide +kernel)), _, rfl, rfl⟩, fun h => absurd h (by decide), fun h => absurd h (by decide), fun h => absurd h (by decide)⟩
  · cases h
    refine ⟨fun h => absurd h (by decide), fun h => absurd h (by decide), fun _ M' hM' => ?_⟩
    obtain rfl : mX11_goBack = M' := Option.some.inj ((show ab_gM (hb_Gx O X) 2824 = some mX11_goBack from rfl).symm.trans hM')
    exact ⟨fun _ => (hb_w 1360 (by decide +kernel)), (hb_w 197 (by decide +kernel)), by decide +kernel, fun _ => ⟨(hb_w 1361 (by decide +kernel)), (hb_w 1362 (by decide +kernel)), _, rfl, rfl⟩, fun h => absurd h (by decide), fun h => absurd h (by decide), fun h => absurd h (by decide)⟩
  · cases h
    refine ⟨fun h => absurd h (by decide), fun h => absurd h (by decide), fun _ M' hM' => ?_⟩
    obtain rfl : mX7_verdict = M' := Option.some.inj ((show ab_gM (hb_Gx O X) 1797 = some mX7_verdict from rfl).symm.trans hM')
    exact ⟨fun _ => (hb_w 1364 (by decide +kernel)), (hb_w 208 (by decide +kernel)), by decide +kernel, fun _ => ⟨(hb_w 1366 (by decide +kernel)), (hb_w 48 (by decide +kernel)), _, rfl, rfl⟩, fun h => absurd h (by decide), fun h => absurd h (by decide), fun h => absurd h (by decide)⟩
  · cases h
    refine ⟨fun h => absurd h (by decide), fun h => absurd h (by decide), fun _ M' hM' => ?_⟩
    obtain rfl : mX7_readBody = M' := Option.some.inj ((show ab_gM (hb_Gx O X) 1814 = some mX7_readBody from rfl).symm.trans hM')
    exact ⟨fun _ => (hb_w 1262 (by decide +kernel)), (hb_w 208 (by decide +kernel)), by decide +kernel, fun _ => ⟨(hb_w 1264 (by decide +kernel)), (hb_w 32 (by decide +kernel)), _, rfl, rfl⟩, fun h => absurd h (by decide), fun h => absurd h (by decide), fun h => absurd h (by decide)⟩
  · cases h
    refine ⟨fun h => absurd h (by decide), fun h => absurd h (by decide), fun _ M' hM' => ?_⟩
    obtain rfl : mX11_isTold = M' := Option.some.inj ((show ab_gM (hb_Gx O X) 2819 = some mX11_isTold from rfl).symm.trans hM')
    exact ⟨fun _ => (hb_w 1179 (by decide +kernel)), (hb_w 197 (by decide +kernel)), by decide +kernel, fun _ => ⟨(hb_w 1180 (by decide +kernel)), (hb_w 1181 (by decide +kernel)), _, rfl, rfl⟩, fun h => absurd h (by decide), fun h => absurd h (by decide), fun h => absurd h (by decide)⟩
  · cases h
    refine ⟨fun h => absurd h (by decide), fun h => absurd h (by decide), fun _ M' hM' => ?_⟩
    obtain rfl : mX7_breakRule = M' := Option.some.inj ((show ab_gM (hb_Gx O X) 1800 = some mX7_breakRule from rfl).symm.trans hM')
    exact ⟨fun _ => (hb_w 1187 (by decide +kernel)), (hb_w 208 (by decide +kernel)), by decide +kernel, fun _ => ⟨(hb_w 1189 (by decide +kernel)), (hb_w 19 (by decide +kernel)), _, rfl, rfl⟩, fun h => absurd h (by decide), fun h => absurd h (by decide), fun h => absurd h (by decide)⟩
  · cases h
    refine ⟨fun h => absurd h (by decide), fun h => absurd h (by decide), fun _ M' hM' => ?_⟩
    obtain rfl : mX11_isFull = M' := Option.some.inj ((show ab_gM (hb_Gx O X) 2820 = some mX11_isFull from rfl).symm.trans hM')
    exact ⟨fun _ => (hb_w 1191 (by decide +kernel)), (hb_w 197 (by decide +kernel)), by decide +kernel, fun _ => ⟨(hb_w 472 (by decide +kernel)), (hb_w 473 (by decide +kernel)), _, rfl, rfl⟩, fun h => absurd h (by decide), fun h => absurd h (by decide), fun h => absurd h (by decide)⟩
  · cases h
    refine ⟨fun h => absurd h (by decide), fun h => absurd h (by decide), fun _ M' hM' => ?_⟩
    obtain rfl : mX11_find = M' := Option.some.inj ((show ab_gM (hb_Gx O X) 2818 = some mX11_find from rfl).symm.trans hM')
    exact ⟨fun _ => (hb_w 1196 (by decide +kernel)), (hb_w 197 (by decide +kernel)), by decide +kernel, fun _ => ⟨(hb_w 1184 (by decide +kernel)), (hb_w 1185 (by decide +kernel)), _, rfl, rfl⟩, fun h => absurd h (by decide), fun h => absurd h (by decide), fun h => absurd h (by decide)⟩
  · cases h
    refine ⟨fun h => absurd h (by decide), fun h => absurd h (by decide), fun _ M' hM' => ?_⟩
    obtain rfl : mX7_takeNewName = M' := Option.some.inj ((show ab_gM (hb_Gx O X) 1801 = some mX7_takeNewName from rfl).symm.trans hM')
    exact ⟨fun _ => (hb_w 1175 (by decide +kernel)), (hb_w 208 (by decide +kernel)), by decide +kernel, fun _ => ⟨(hb_w 1177 (by decide +kernel)), (hb_w 18 (by decide +kernel)), _, rfl, rfl⟩, fun h => absurd h (by decide), fun h => absurd h (by decide), fun h => absurd h (by decide)⟩
  · cases h
    refine ⟨fun h => absurd h (by decide), fun h => absurd h (by decide), fun _ M' hM' => ?_⟩
    obtain rfl : mX7_takeKnownName = M' := Option.some.inj ((show ab_gM (hb_Gx O X) 1802 = some mX7_takeKnownName from rfl).symm.trans hM')
    exact ⟨fun _ => (hb_w 1192 (by decide +kernel)), (hb_w 208 (by decide +kernel)), by decide +kernel, fun _ => ⟨(hb_w 1194 (by decide +kernel)), (hb_w 20 (by decide +kernel)), _, rfl, rfl⟩, fun h => absurd h (by decide), fun h => absurd h (by decide), fun h => absurd h (by decide)⟩
  · cases h
    refine ⟨fun h => absurd h (by decide), fun h => absurd h (by decide), fun _ M' hM' => ?_⟩
    obtain rfl : mX2_isParent = M' := Option.some.inj ((show ab_gM (hb_Gx O X) 516 = some mX2_isParent from rfl).symm.trans hM')
    exact ⟨fun _ => (hb_w 1197 (by decide +kernel)), (hb_w 198 (by decide +kernel)), by decide +kernel, fun _ => ⟨(hb_w 1198 (by decide +kernel)), (hb_w 1199 (by decide +kernel)), _, rfl, rfl⟩, fun h => absurd h (by decide), fun h => absurd h (by decide), fun h => absurd h (by decide)⟩
  · cases h
    refine ⟨fun h => absurd h (by decide), fun h => absurd h (by decide), fun _ M' hM' => ?_⟩
    obtain rfl : mX2_addParent = M' := Option.some.inj ((show ab_gM (hb_Gx O X) 517 = some mX2_addParent from rfl).symm.trans hM')
    exact ⟨fun _ => (hb_w 1201 (by decide +kernel)), (hb_w 198 (by decide +kernel)), by decide +kernel, fun _ => ⟨(hb_w 531 (by decide +kernel)), (hb_w 532 (by decide +kernel)), _, rfl, rfl⟩, fun h => absurd h (by decide), fun h => absurd h (by decide), fun h => absurd h (by decide)⟩
  · cases h
    refine ⟨fun h => absurd h (by decide), fun h => absurd h (by decide), fun _ M' hM' => ?_⟩
    obtain rfl : mX2_make = M' := Option.some.inj ((show ab_gM (hb_Gx O X) 518 = some mX2_make from rfl).symm.trans hM')
    exact ⟨fun _ => (hb_w 1206 (by decide +kernel)), (hb_w 198 (by decide +kernel)), by decide +kernel, fun _ => ⟨(hb_w 482 (by decide +kernel)), (hb_w 483 (by decide +kernel)), _, rfl, rfl⟩, fun h => absurd h (by decide), fun h => absurd h (by decide), fun h => absurd h (by decide)⟩
  · cases h
    refine ⟨fun h => absurd h (by decide), fun h => absurd h (by decide), fun _ M' hM' => ?_⟩
    obtain rfl : mX11_addName = M' := Option.some.inj ((show ab_gM (hb_Gx O X) 2821 = some mX11_addName from rfl).symm.trans hM')
    exact ⟨fun _ => (hb_w 1207 (by decide +kernel)), (hb_w 197 (by decide +kernel)), by decide +kernel, fun _ => ⟨(hb_w 468 (by decide +kernel)), (hb_w 469 (by decide +kernel)), _, rfl, rfl⟩, fun h => absurd h (by decide), fun h => absurd h (by decide), fun h => absurd h (by decide)⟩
  · cases h
    refine ⟨fun h => absurd h (by decide), fun h => absurd h (by decide), fun _ M' hM' => ?_⟩
    obtain rfl : mX5_open = M' := Option.some.inj ((show ab_gM (hb_Gx O X) 1282 = some mX5_open from rfl).symm.trans hM')
    exact ⟨fun _ => (hb_w 1221 (by decide +kernel)), (hb_w 199 (by decide +kernel)), by decide +kernel, fun _ => ⟨(hb_w 1222 (by decide +kernel)), (hb_w 1223 (by decide +kernel)), _, rfl, rfl⟩, fun h => absurd h (by decide), fun h => absurd h (by decide), fun h => absurd h (by decide)⟩
  · cases h
    refine ⟨fun h => absurd h (by decide), fun h => absurd h (by decide), fun _ M' hM' => ?_⟩
    obtain rfl : mX7_readSpecs = M' := Option.some.inj ((show ab_gM (hb_Gx O X) 1807 = some mX7_readSpecs from rfl).symm.trans hM')
    exact ⟨fun _ => (hb_w 1226 (by decide +kernel)), (hb_w 208 (by decide +kernel)), by decide +kernel, fun _ => ⟨(hb_w 1228 (by decide +kernel)), (hb_w 25 (by decide +kernel)), _, rfl, rfl⟩, fun h => absurd h (by decide), fun h => absurd h (by decide), fun h => absurd h (by decide)⟩
  · cases h
    refine ⟨fun h => absurd h (by decide), fun h => absurd h (by decide), fun _ M' hM' => ?_⟩
    obtain rfl : mX7_readTest = M' := Option.some.inj ((show ab_gM (hb_Gx O X) 1810 = some mX7_readTest from rfl).symm.trans hM')
    exact ⟨fun _ => (hb_w 1238 (by decide +kernel)), (hb_w 208 (by decide +kernel)), by decide +kernel, fun _ => ⟨(hb_w 1240 (by decide +kernel)), (hb_w 28 (by decide +kernel)), _, rfl, rfl⟩, fun h => absurd h (by decide), fun h => absurd h (by decide), fun h => absurd h (by decide)⟩
  · cases h
    refine ⟨fun h => absurd h (by decide), fun h => absurd h (by decide), fun _ M' hM' => ?_⟩
    obtain rfl : mX5_hasTwin = M' := Option.some.inj ((show ab_gM (hb_Gx O X) 1287 = some mX5_hasTwin from rfl).symm.trans hM')
    exact ⟨fun _ => (hb_w 1347 (by decide +kernel)), (hb_w 199 (by decide +kernel)), by decide +kernel, fun _ => ⟨(hb_w 1348 (by decide +kernel)), (hb_w 1349 (by decide +kernel)), _, rfl, rfl⟩, fun h => absurd h (by decide), fun h => absurd h (by decide), fun h => absurd h (by decide)⟩
  · cases h
    refine ⟨fun h => absurd h (by decide), fun h => absurd h (by decide), fun _ M' hM' => ?_⟩
    obtain rfl : mX7_readSpec = M' := Option.some.inj ((show ab_gM (hb_Gx O X) 1808 = some mX7_readSpec from rfl).symm.trans hM')
    exact ⟨fun _ => (hb_w 1230 (by decide +kernel)), (hb_w 208 (by decide +kernel)), by decide +kernel, fun _ => ⟨(hb_w 1232 (by decide +kernel)), (hb_w 26 (by decide +kernel)), _, rfl, rfl⟩, fun h => absurd h (by decide), fun h => absurd h (by decide), fun h => absurd h (by decide)⟩
  · cases h
    refine ⟨fun h => absurd h (by decide), fun h => absurd h (by decide), fun _ M' hM' => ?_⟩
    obtain rfl : mX7_takeNumber = M' := Option.some.inj ((show ab_gM (hb_Gx O X) 1809 = some mX7_takeNumber from rfl).symm.trans hM')
    exact ⟨fun _ => (hb_w 1234 (by decide +kernel)), (hb_w 208 (by decide +kernel)), by decide +kernel, fun _ => ⟨(hb_w 1236 (by decide +kernel)), (hb_w 27 (by decide +kernel)), _, rfl, rfl⟩, fun h => absurd h (by decide), fun h => absurd h (by decide), fun h => absurd h (by decide)⟩
  · cases h
    refine ⟨fun h => absurd h (by decide), fun h => absurd h (by decide), fun _ M' hM' => ?_⟩
    obtain rfl : mX7_readOneOfTest = M' := Option.some.inj ((show ab_gM (hb_Gx O X) 1811 = some mX7_readOneOfTest from rfl).symm.trans hM')
    exact ⟨fun _ => (hb_w 1243 (by decide +kernel)), (hb_w 208 (by decide +kernel)), by decide +kernel, fun _ => ⟨(hb_w 1245 (by decide +kernel)), (hb_w 29 (by decide +kernel)), _, rfl, rfl⟩, fun h => absurd h (by decide), fun h => absurd h (by decide), fun h => absurd h (by decide)⟩
  · cases h
    refine ⟨fun h => absurd h (by decide), fun h => absurd h (by decide), fun _ M' hM' => ?_⟩
    obtain rfl : mX7_readComparison = M' := Option.some.inj ((show ab_gM (hb_Gx O X) 1812 = some mX7_readComparison from rfl).symm.trans hM')
    exact ⟨fun _ => (hb_w 1249 (by decide +kernel)), (hb_w 208 (by decide +kernel)), by decide +kernel, fun _ => ⟨(hb_w 1251 (by decide +kernel)), (hb_w 30 (by decide +kernel)), _, rfl, rfl⟩, fun h => absurd h (by decide), fun h => absurd h (by decide), fun h => absurd h (by decide)⟩
  · cases h
    refine ⟨fun h => absurd h (by decide), fun h => absurd h (by decide), fun _ M' hM' => ?_⟩
    obtain rfl : mJ9_max_7cf53 = M' := Option.some.inj ((show ab_gM (hb_Gx O X) 9216 = some mJ9_max_7cf53 from rfl).symm.trans hM')
    exact ⟨fun _ => (hb_w 1253 (by decide +kernel)), (hb_w 231 (by decide +kernel)), by decide +kernel, fun h => absurd h (by decide), fun _ => (hb_w 1059 (by decide +kernel)), fun h => absurd h (by decide), fun h => absurd h (by decide)⟩
  · cases h
    refine ⟨fun h => absurd h (by decide), fun h => absurd h (by decide), fun _ M' hM' => ?_⟩
    obtain rfl : mX5_addTest = M' := Option.some.inj ((show ab_gM (hb_Gx O X) 1283 = some mX5_addTest from rfl).symm.trans hM')
    exact ⟨fun _ => (hb_w 1254 (by decide +kernel)), (hb_w 199 (by decide +kernel)), by decide +kernel, fun _ => ⟨(hb_w 1255 (by decide +kernel)), (hb_w 1256 (by decide +kernel)), _, rfl, rfl⟩, fun h => absurd h (by decide), fun h => absurd h (by decide), fun h => absurd h (by decide)⟩
  · cases h
    refine ⟨fun h => absurd h (by decide), fun h => absurd h (by decide), fun _ M' hM' => ?_⟩
    obtain rfl : mX7_readTerm = M' := Option.some.inj ((show ab_gM (hb_Gx O X) 1813 = some mX7_readTerm from rfl).symm.trans hM')
    exact ⟨fun _ => (hb_w 1258 (by decide +kernel)), (hb_w 208 (by decide +kernel)), by decide +kernel, fun _ => ⟨(hb_w 1260 (by decide +kernel)), (hb_w 31 (by decide +kernel)), _, rfl, rfl⟩, fun h => absurd h (by decide), fun h => absurd h (by decide), fun h => absurd h (by decide)⟩
  · cases h
    refine ⟨fun h => absurd h (by decide), fun h => absurd h (by decide), fun _ M' hM' => ?_⟩
    obtain rfl : mX1_open = M' := Option.some.inj ((show ab_gM (hb_Gx O X) 257 = some mX1_open from rfl).symm.trans hM')
    exact ⟨fun _ => (hb_w 1266 (by decide +kernel)), (hb_w 200 (by decide +kernel)), by decide +kernel, fun _ => ⟨(hb_w 1267 (by decide +kernel)), (hb_w 1268 (by decide +kernel)), _, rfl, rfl⟩, fun h => absurd h (by decide), fun h => absurd h (by decide), fun h => absurd h (by decide)⟩
  · cases h
    refine ⟨fun h => absurd h (by decide), fun h => absurd h (by decide), fun _ M' hM' => ?_⟩
    obtain rfl : mX7_readE = M' := Option.some.inj ((show ab_gM (hb_Gx O X) 1816 = some mX7_readE from rfl).symm.trans hM')
    exact ⟨fun _ => (hb_w 1283 (by decide +kernel)), (hb_w 208 (by decide +kernel)), by decide +kernel, fun _ => ⟨(hb_w 1285 (by decide +kernel)), (hb_w 33 (by decide +kernel)), _, rfl, rfl⟩, fun h => absurd h (by decide), fun h => absurd h (by decide), fun h => absurd h (by decide)⟩
  · cases h
    refine ⟨fun h => absurd h (by decide), fun h => absurd h (by decide), fun _ M' hM' => ?_⟩
    obtain rfl : mX1_emit = M' := Option.some.inj ((show ab_gM (hb_Gx O X) 258 = some mX1_emit from rfl).symm.trans hM')
    exact ⟨fun _ => (hb_w 1299 (by decide +kernel)), (hb_w 200 (by decide +kernel)), by decide +kernel, fun _ => ⟨(hb_w 1300 (by decide +kernel)), (hb_w 1301 (by decide +kernel)), _, rfl, rfl⟩, fun h => absurd h (by decide), fun h => absurd h (by decide), fun h => absurd h (by decide)⟩
  · cases h
    refine ⟨fun h => absurd h (by decide), fun h => absurd h (by decide), fun _ M' hM' => ?_⟩
    obtain rfl : mX7_readLet = M' := Option.some.inj ((show ab_gM (hb_Gx O X) 1817 = some mX7_readLet from rfl).symm.trans hM')
    exact ⟨fun _ => (hb_w 1287 (by decide +kernel)), (hb_w 208 (by decide +kernel)), by decide +kernel, fun _ => ⟨(hb_w 1289 (by decide +kernel)), (hb_w 34 (by decide +kernel)), _, rfl, rfl⟩, fun h => absurd h (by decide), fun h => absurd h (by decide), fun h => absurd h (by decide)⟩
  · cases h
    refine ⟨fun h => absurd h (by decide), fun h => absurd h (by decide), fun _ M' hM' => ?_⟩
    obtain rfl : mX7_readIf = M' := Option.some.inj ((show ab_gM (hb_Gx O X) 1819 = some mX7_readIf from rfl).symm.trans hM')
    exact ⟨fun _ => (hb_w 1303 (by decide +kernel)), (hb_w 208 (by decide +kernel)), by decide +kernel, fun _ => ⟨(hb_w 1305 (by decide +kernel)), (hb_w 37 (by decide +kernel)), _, rfl, rfl⟩, fun h => absurd h (by decide), fun h => absurd h (by decide), fun h => absurd h (by decide)⟩
  · cases h
    refine ⟨fun h => absurd h (by decide), fun h => absurd h (by decide), fun _ M' hM' => ?_⟩
    obtain rfl : mX7_readWith = M' := Option.some.inj ((show ab_gM (hb_Gx O X) 1820 = some mX7_readWith from rfl).symm.trans hM')
    exact ⟨fun _ => (hb_w 1311 (by decide +kernel)), (hb_w 208 (by decide +kernel)), by decide +kernel, fun _ => ⟨(hb_w 1313 (by decide +kernel)), (hb_w 38 (by decide +kernel)), _, rfl, rfl⟩, fun h => absurd h (by decide), fun h => absurd h (by decide), fun h => absurd h (by decide)⟩
  · cases h
    refine ⟨fun h => absurd h (by decide), fun h => absurd h (by decide), fun _ M' hM' => ?_⟩
    obtain rfl : mX7_readTry = M' := Option.some.inj ((show ab_gM (hb_Gx O X) 1821 = some mX7_readTry from rfl).symm.trans hM')
    exact ⟨fun _ => (hb_w 1315 (by decide +kernel)), (hb_w 208 (by decide +kernel)), by decide +kernel, fun _ => ⟨(hb_w 1317 (by decide +kernel)), (hb_w 39 (by decide +kernel)), _, rfl, rfl⟩, fun h => absurd h (by decide), fun h => absurd h (by decide), fun h => absurd h (by decide)⟩
  · cases h
    refine ⟨fun h => absurd h (by decide), fun h => absurd h (by decide), fun _ M' hM' => ?_⟩
    obtain rfl : mX7_addNode = M' := Option.some.inj ((show ab_gM (hb_Gx O X) 1815 = some mX7_addNode from rfl).symm.trans hM')
    exact ⟨fun _ => (hb_w 1291 (by decide +kernel)), (hb_w 208 (by decide +kernel)), by decide +kernel, fun _ => ⟨(hb_w 1293 (by decide +kernel)), (hb_w 35 (by decide +kernel)), _, rfl, rfl⟩, fun h => absurd h (by decide), fun h => absurd h (by decide), fun h => absurd h (by decide)⟩
  · cases h
    refine ⟨fun h => absurd h (by decide), fun h => absurd h (by decide), fun _ M' hM' => ?_⟩
    obtain rfl : mX7_readCompared = M' := Option.some.inj ((show ab_gM (hb_Gx O X) 1822 = some mX7_readCompared from rfl).symm.trans hM')
    exact ⟨fun _ => (hb_w 1319 (by decide +kernel)), (hb_w 208 (by decide +kernel)), by decide +kernel, fun _ => ⟨(hb_w 1321 (by decide +kernel)), (hb_w 40 (by decide +kernel)), _, rfl, rfl⟩, fun h => absurd h (by decide), fun h => absurd h (by decide), fun h => absurd h (by decide)⟩
  · cases h
    refine ⟨fun h => absurd h (by decide), fun h => absurd h (by decide), fun _ M' hM' => ?_⟩
    obtain rfl : mX7_readWithVariable = M' := Option.some.inj ((show ab_gM (hb_Gx O X) 1818 = some mX7_readWithVariable from rfl).symm.trans hM')
    exact ⟨fun _ => (hb_w 1295 (by decide +kernel)), (hb_w 208 (by decide +kernel)), by decide +kernel, fun _ => ⟨(hb_w 1297 (by decide +kernel)), (hb_w 36 (by decide +kernel)), _, rfl, rfl⟩, fun h => absurd h (by decide), fun h => absurd h (by decide), fun h => absurd h (by decide)⟩
  · cases h
    refine ⟨fun h => absurd h (by decide), fun h => absurd h (by decide), fun _ M' hM' => ?_⟩
    obtain rfl : mX1_aim = M' := Option.some.inj ((show ab_gM (hb_Gx O X) 259 = some mX1_aim from rfl).symm.trans hM')
    exact ⟨fun _ => (hb_w 1307 (by decide +kernel)), (hb_w 200 (by decide +kernel)), by decide +kernel, fun _ => ⟨(hb_w 1308 (by decide +kernel)), (hb_w 1309 (by decide +kernel)), _, rfl, rfl⟩, fun h => absurd h (by decide), fun h => absurd h (by decide), fun h => absurd h (by decide)⟩
  · cases h
    refine ⟨fun h => absurd h (by decide), fun h => absurd h (by decide), fun _ M' hM' => ?_⟩
    obtain rfl : mX7_readSum = M' := Option.some.inj ((show ab_gM (hb_Gx O X) 1823 = some mX7_readSum from rfl).symm.trans hM')
    exact ⟨fun _ => (hb_w 1323 (by decide +kernel)), (hb_w 208 (by decide +kernel)), by decide +kernel, fun _ => ⟨(hb_w 1325 (by decide +kernel)), (hb_w 41 (by decide +kernel)), _, rfl, rfl⟩, fun h => absurd h (by decide), fun h => absurd h (by decide), fun h => absurd h (by decide)⟩
  · cases h
    refine ⟨fun h => absurd h (by decide), fun h => absurd h (by decide), fun _ M' hM' => ?_⟩
    obtain rfl : mX7_readProduct = M' := Option.some.inj ((show ab_gM (hb_Gx O X) 1824 = some mX7_readProduct from rfl).symm.trans hM')
    exact ⟨fun _ => (hb_w 1327 (by decide +kernel)), (hb_w 208 (by decide +kernel)), by decide +kernel, fun _ => ⟨(hb_w 1329 (by decide +kernel)), (hb_w 42 (by decide +kernel)), _, rfl, rfl⟩, fun h => absurd h (by decide), fun h => absurd h (by decide), fun h => absurd h (by decide)⟩
  · cases h
    refine ⟨fun h => absurd h (by decide), fun h => absurd h (by decide), fun _ M' hM' => ?_⟩
    obtain rfl : mX7_readP = M' := Option.some.inj ((show ab_gM (hb_Gx O X) 1825 = some mX7_readP from rfl).symm.trans hM')
    exact ⟨fun _ => (hb_w 1331 (by decide +kernel)), (hb_w 208 (by decide +kernel)), by decide +kernel, fun _ => ⟨(hb_w 1333 (by decide +kernel)), (hb_w 43 (by decide +kernel)), _, rfl, rfl⟩, fun h => absurd h (by decide), fun h => absurd h (by decide), fun h => absurd h (by decide)⟩
  · cases h
    refine ⟨fun h => absurd h (by decide), fun h => absurd h (by decide), fun _ M' hM' => ?_⟩
    obtain rfl : mX7_readNamed = M' := Option.some.inj ((show ab_gM (hb_Gx O X) 1826 = some mX7_readNamed from rfl).symm.trans hM')
    exact ⟨fun _ => (hb_w 1335 (by decide +kernel)), (hb_w 208 (by decide +kernel)), by decide +kernel, fun _ => ⟨(hb_w 1337 (by decide +kernel)), (hb_w 44 (by decide +kernel)), _, rfl, rfl⟩, fun h => absurd h (by decide), fun h => absurd h (by decide), fun h => absurd h (by decide)⟩
  · cases h
    refine ⟨fun h => absurd h (by decide), fun h => absurd h (by decide), fun _ M' hM' => ?_⟩
    obtain rfl : mX7_readNext = M' := Option.some.inj ((show ab_gM (hb_Gx O X) 1827 = some mX7_readNext from rfl).symm.trans hM')
    exact ⟨fun _ => (hb_w 1343 (by decide +kernel)), (hb_w 208 (by decide +kernel)), by decide +kernel, fun _ => ⟨(hb_w 1345 (by decide +kernel)), (hb_w 46 (by decide +kernel)), _, rfl, rfl⟩, fun h => absurd h (by decide), fun h => absurd h (by decide), fun h => absurd h (by decide)⟩
  · cases h
    refine ⟨fun h => absurd h (by decide), fun h => absurd h (by decide), fun _ M' hM' => ?_⟩
    obtain rfl : mX7_readArguments = M' := Option.some.inj ((show ab_gM (hb_Gx O X) 1828 = some mX7_readArguments from rfl).symm.trans hM')
    exact ⟨fun _ => (hb_w 1339 (by decide +kernel)), (hb_w 208 (by decide +kernel)), by decide +kernel, fun _ => ⟨(hb_w 1341 (by decide +kernel)), (hb_w 45 (by decide +kernel)), _, rfl, rfl⟩, fun h => absurd h (by decide), fun h => absurd h (by decide), fun h => absurd h (by decide)⟩
  · cases h
theorem hb_T8_ok (O : Nat → Option String) (X : ab_X) : ∀ (ix sort y na ci : Nat), hb_T8 ix = some (sort, y, na, ci) → ∀ M : ab_MI, ab_mo M = 8 → (ab_my M).cls = RX8 →
    (sort = 4 → Cond.methodLink (ab_my M).cls ix objectInit ∈ hb_TB ∧ Cond.instanceMethod objectInit ∈ hb_TB ∧ Cond.code objectInit ⟨#[0xb1]⟩ 1 none ∈ hb_TB) ∧
    (sort = 5 → Cond.methodLink (ab_my M).cls ix arraycopyName ∈ hb_TB ∧ Cond.native arraycopyName ∈ hb_TB ∧ Cond.static arraycopyName ∈ hb_TB ∧ Cond.initialized "java/lang/System" ∈ hb_TB) ∧
    (sort < 4 ∨ sort = 6 → ∀ M' : ab_MI, ab_gM (hb_Gx O X) y = some M' → (sort ≠ 3 → Cond.methodLink (ab_my M).cls ix (ab_my M') ∈ hb_TB) ∧ Cond.initialized (ab_my M').cls ∈ hb_TB ∧ ((ab_my M').cls ≠ "java/lang/invoke/MethodHandle" ∧ (ab_my M').cls ≠ "java/lang/invoke/VarHandle" ∧ (parseMethodDescriptor (ab_my M').desc).map (fun d => d.parameters.length) = some na) ∧
      (sort = 0 → Cond.instanceMethod (ab_my M') ∈ hb_TB ∧ Cond.selects (ab_my M').cls (ab_my M') (ab_my M') ∈ hb_TB ∧ ∃ q : vw_C, (ab_gK (hb_Gx O X))[ci]? = some q ∧ q.1 = (ab_my M').cls) ∧
      (sort = 1 → Cond.static (ab_my M') ∈ hb_TB) ∧
      (sort = 6 → Cond.instanceMethod (ab_my M') ∈ hb_TB ∧ Cond.selects (ab_my M').cls (ab_my M') (ab_my M') ∈ hb_TB ∧ (ab_my M').cls = "java/lang/String") ∧
      (sort = 2 ∨ sort = 3 → (ab_my M').name = "<init>" ∧ Cond.instanceMethod (ab_my M') ∈ hb_TB ∧ ab_mr M' = none)) := by
  intro ix sort y na ci h M _ hcl
  rw [hcl]
  unfold hb_T8 at h
  split at h
  · cases h
    exact ⟨fun _ => ⟨(hb_w 662 (by decide +kernel)), (hb_w 247 (by decide +kernel)), (hb_w 248 (by decide +kernel))⟩, fun h => absurd h (by decide), fun h => absurd h (by decide)⟩
  · cases h
    refine ⟨fun h => absurd h (by decide), fun h => absurd h (by decide), fun _ M' hM' => ?_⟩
    obtain rfl : mJ9_max_7cf53 = M' := Option.some.inj ((show ab_gM (hb_Gx O X) 9216 = some mJ9_max_7cf53 from rfl).symm.trans hM')
    exact ⟨fun _ => (hb_w 1058 (by decide +kernel)), (hb_w 231 (by decide +kernel)), by decide +kernel, fun h => absurd h (by decide), fun _ => (hb_w 1059 (by decide +kernel)), fun h => absurd h (by decide), fun h => absurd h (by decide)⟩
  · cases h
    refine ⟨fun h => absurd h (by decide), fun h => absurd h (by decide), fun _ M' hM' => ?_⟩
    obtain rfl : mX8_cutOne = M' := Option.some.inj ((show ab_gM (hb_Gx O X) 2051 = some mX8_cutOne from rfl).symm.trans hM')
    exact ⟨fun _ => (hb_w 1061 (by decide +kernel)), (hb_w 201 (by decide +kernel)), by decide +kernel, fun _ => ⟨(hb_w 1063 (by decide +kernel)), (hb_w 9 (by decide +kernel)), _, rfl, rfl⟩, fun h => absurd h (by decide), fun h => absurd h (by decide), fun h => absurd h (by decide)⟩
  · cases h
    refine ⟨fun h => absurd h (by decide), fun h => absurd h (by decide), fun _ M' hM' => ?_⟩
    obtain rfl : mX8_put = M' := Option.some.inj ((show ab_gM (hb_Gx O X) 2050 = some mX8_put from rfl).symm.trans hM')
    exact ⟨fun _ => (hb_w 1075 (by decide +kernel)), (hb_w 201 (by decide +kernel)), by decide +kernel, fun _ => ⟨(hb_w 1077 (by decide +kernel)), (hb_w 11 (by decide +kernel)), _, rfl, rfl⟩, fun h => absurd h (by decide), fun h => absurd h (by decide), fun h => absurd h (by decide)⟩
  · cases h
    refine ⟨fun h => absurd h (by decide), fun h => absurd h (by decide), fun _ M' hM' => ?_⟩
    obtain rfl : mX8_cutNumber = M' := Option.some.inj ((show ab_gM (hb_Gx O X) 2052 = some mX8_cutNumber from rfl).symm.trans hM')
    exact ⟨fun _ => (hb_w 1065 (by decide +kernel)), (hb_w 201 (by decide +kernel)), by decide +kernel, fun _ => ⟨(hb_w 1067 (by decide +kernel)), (hb_w 10 (by decide +kernel)), _, rfl, rfl⟩, fun h => absurd h (by decide), fun h => absurd h (by decide), fun h => absurd h (by decide)⟩
  · cases h
    refine ⟨fun h => absurd h (by decide), fun h => absurd h (by decide), fun _ M' hM' => ?_⟩
    obtain rfl : mX8_codeOf = M' := Option.some.inj ((show ab_gM (hb_Gx O X) 2055 = some mX8_codeOf from rfl).symm.trans hM')
    exact ⟨fun _ => (hb_w 464 (by decide +kernel)), (hb_w 201 (by decide +kernel)), by decide +kernel, fun h => absurd h (by decide), fun _ => (hb_w 465 (by decide +kernel)), fun h => absurd h (by decide), fun h => absurd h (by decide)⟩
  · cases h
    refine ⟨fun h => absurd h (by decide), fun h => absurd h (by decide), fun _ M' hM' => ?_⟩
    obtain rfl : mX8_cutName = M' := Option.some.inj ((show ab_gM (hb_Gx O X) 2053 = some mX8_cutName from rfl).symm.trans hM')
    exact ⟨fun _ => (hb_w 1079 (by decide +kernel)), (hb_w 201 (by decide +kernel)), by decide +kernel, fun _ => ⟨(hb_w 1081 (by decide +kernel)), (hb_w 12 (by decide +kernel)), _, rfl, rfl⟩, fun h => absurd h (by decide), fun h => absurd h (by decide), fun h => absurd h (by decide)⟩
  · cases h
    refine ⟨fun h => absurd h (by decide), fun h => absurd h (by decide), fun _ M' hM' => ?_⟩
    obtain rfl : mX8_cutMark = M' := Option.some.inj ((show ab_gM (hb_Gx O X) 2054 = some mX8_cutMark from rfl).symm.trans hM')
    exact ⟨fun _ => (hb_w 1090 (by decide +kernel)), (hb_w 201 (by decide +kernel)), by decide +kernel, fun _ => ⟨(hb_w 1092 (by decide +kernel)), (hb_w 13 (by decide +kernel)), _, rfl, rfl⟩, fun h => absurd h (by decide), fun h => absurd h (by decide), fun h => absurd h (by decide)⟩
  · cases h
    refine ⟨fun h => absurd h (by decide), fun h => absurd h (by decide), fun _ M' hM' => ?_⟩
    obtain rfl : mJ9_min_f86c9 = M' := Option.some.inj ((show ab_gM (hb_Gx O X) 9218 = some mJ9_min_f86c9 from rfl).symm.trans hM')
    exact ⟨fun _ => (hb_w 1071 (by decide +kernel)), (hb_w 231 (by decide +kernel)), by decide +kernel, fun h => absurd h (by decide), fun _ => (hb_w 1072 (by decide +kernel)), fun h => absurd h (by decide), fun h => absurd h (by decide)⟩
  · cases h
    refine ⟨fun h => absurd h (by decide), fun h => absurd h (by decide), fun _ M' hM' => ?_⟩
    obtain rfl : mX8_wordOrName = M' := Option.some.inj ((show ab_gM (hb_Gx O X) 2057 = some mX8_wordOrName from rfl).symm.trans hM')
    exact ⟨fun _ => (hb_w 1083 (by decide +kernel)), (hb_w 201 (by decide +kernel)), by decide +kernel, fun h => absurd h (by decide), fun _ => (hb_w 1084 (by decide +kernel)), fun h => absurd h (by decide), fun h => absurd h (by decide)⟩
  · cases h
    refine ⟨fun h => absurd h (by decide), fun h => absurd h (by decide), fun _ M' hM' => ?_⟩
    obtain rfl : mJ0_indexOf_0f7a4 = M' := Option.some.inj ((show ab_gM (hb_Gx O X) 9475 = some mJ0_indexOf_0f7a4 from rfl).symm.trans hM')
    exact ⟨fun _ => (hb_w 1095 (by decide +kernel)), (hb_w 202 (by decide +kernel)), by decide +kernel, fun h => absurd h (by decide), fun h => absurd h (by decide), fun _ => ⟨(hb_w 1096 (by decide +kernel)), (hb_w 1097 (by decide +kernel)), rfl⟩, fun h => absurd h (by decide)⟩
  · cases h
    refine ⟨fun h => absurd h (by decide), fun h => absurd h (by decide), fun _ M' hM' => ?_⟩
    obtain rfl : mJ0_length_8abf5 = M' := Option.some.inj ((show ab_gM (hb_Gx O X) 9472 = some mJ0_length_8abf5 from rfl).symm.trans hM')
    exact ⟨fun _ => (hb_w 416 (by decide +kernel)), (hb_w 202 (by decide +kernel)), by decide +kernel, fun h => absurd h (by decide), fun h => absurd h (by decide), fun _ => ⟨(hb_w 417 (by decide +kernel)), (hb_w 418 (by decide +kernel)), rfl⟩, fun h => absurd h (by decide)⟩
  · cases h
    refine ⟨fun h => absurd h (by decide), fun h => absurd h (by decide), fun _ M' hM' => ?_⟩
    obtain rfl : mJ0_charAt_5068e = M' := Option.some.inj ((show ab_gM (hb_Gx O X) 9473 = some mJ0_charAt_5068e from rfl).symm.trans hM')
    exact ⟨fun _ => (hb_w 426 (by decide +kernel)), (hb_w 202 (by decide +kernel)), by decide +kernel, fun h => absurd h (by decide), fun h => absurd h (by decide), fun _ => ⟨(hb_w 427 (by decide +kernel)), (hb_w 428 (by decide +kernel)), rfl⟩, fun h => absurd h (by decide)⟩
  · cases h
    refine ⟨fun h => absurd h (by decide), fun h => absurd h (by decide), fun _ M' hM' => ?_⟩
    obtain rfl : mX8_isWord = M' := Option.some.inj ((show ab_gM (hb_Gx O X) 2058 = some mX8_isWord from rfl).symm.trans hM')
    exact ⟨fun _ => (hb_w 1087 (by decide +kernel)), (hb_w 201 (by decide +kernel)), by decide +kernel, fun h => absurd h (by decide), fun _ => (hb_w 1088 (by decide +kernel)), fun h => absurd h (by decide), fun h => absurd h (by decide)⟩
  · cases h
theorem hb_T9_ok (O : Nat → Option String) (X : ab_X) : ∀ (ix sort y na ci : Nat), hb_T9 ix = some (sort, y, na, ci) → ∀ M : ab_MI, ab_mo M = 9 → (ab_my M).cls = RX9 →
    (sort = 4 → Cond.methodLink (ab_my M).cls ix objectInit ∈ hb_TB ∧ Cond.instanceMethod objectInit ∈ hb_TB ∧ Cond.code objectInit ⟨#[0xb1]⟩ 1 none ∈ hb_TB) ∧
    (sort = 5 → Cond.methodLink (ab_my M).cls ix arraycopyName ∈ hb_TB ∧ Cond.native arraycopyName ∈ hb_TB ∧ Cond.static arraycopyName ∈ hb_TB ∧ Cond.initialized "java/lang/System" ∈ hb_TB) ∧
    (sort < 4 ∨ sort = 6 → ∀ M' : ab_MI, ab_gM (hb_Gx O X) y = some M' → (sort ≠ 3 → Cond.methodLink (ab_my M).cls ix (ab_my M') ∈ hb_TB) ∧ Cond.initialized (ab_my M').cls ∈ hb_TB ∧ ((ab_my M').cls ≠ "java/lang/invoke/MethodHandle" ∧ (ab_my M').cls ≠ "java/lang/invoke/VarHandle" ∧ (parseMethodDescriptor (ab_my M').desc).map (fun d => d.parameters.length) = some na) ∧
      (sort = 0 → Cond.instanceMethod (ab_my M') ∈ hb_TB ∧ Cond.selects (ab_my M').cls (ab_my M') (ab_my M') ∈ hb_TB ∧ ∃ q : vw_C, (ab_gK (hb_Gx O X))[ci]? = some q ∧ q.1 = (ab_my M').cls) ∧
      (sort = 1 → Cond.static (ab_my M') ∈ hb_TB) ∧
      (sort = 6 → Cond.instanceMethod (ab_my M') ∈ hb_TB ∧ Cond.selects (ab_my M').cls (ab_my M') (ab_my M') ∈ hb_TB ∧ (ab_my M').cls = "java/lang/String") ∧
      (sort = 2 ∨ sort = 3 → (ab_my M').name = "<init>" ∧ Cond.instanceMethod (ab_my M') ∈ hb_TB ∧ ab_mr M' = none)) := by
  intro ix sort y na ci h M _ hcl
  rw [hcl]
  unfold hb_T9 at h
  split at h
  · cases h
    exact ⟨fun _ => ⟨(hb_w 736 (by decide +kernel)), (hb_w 247 (by decide +kernel)), (hb_w 248 (by decide +kernel))⟩, fun h => absurd h (by decide), fun h => absurd h (by decide)⟩
  · cases h
    refine ⟨fun h => absurd h (by decide), fun h => absurd h (by decide), fun _ M' hM' => ?_⟩
    obtain rfl : mX9_addCut = M' := Option.some.inj ((show ab_gM (hb_Gx O X) 2307 = some mX9_addCut from rfl).symm.trans hM')
    exact ⟨fun _ => (hb_w 1581 (by decide +kernel)), (hb_w 210 (by decide +kernel)), by decide +kernel, fun _ => ⟨(hb_w 1583 (by decide +kernel)), (hb_w 53 (by decide +kernel)), _, rfl, rfl⟩, fun h => absurd h (by decide), fun h => absurd h (by decide), fun h => absurd h (by decide)⟩
  · cases h
    refine ⟨fun h => absurd h (by decide), fun h => absurd h (by decide), fun _ M' hM' => ?_⟩
    obtain rfl : mX2_isBelow = M' := Option.some.inj ((show ab_gM (hb_Gx O X) 513 = some mX2_isBelow from rfl).symm.trans hM')
    exact ⟨fun _ => (hb_w 1585 (by decide +kernel)), (hb_w 198 (by decide +kernel)), by decide +kernel, fun _ => ⟨(hb_w 550 (by decide +kernel)), (hb_w 551 (by decide +kernel)), _, rfl, rfl⟩, fun h => absurd h (by decide), fun h => absurd h (by decide), fun h => absurd h (by decide)⟩
  · cases h
    refine ⟨fun h => absurd h (by decide), fun h => absurd h (by decide), fun _ M' hM' => ?_⟩
    obtain rfl : mX9_goToSide = M' := Option.some.inj ((show ab_gM (hb_Gx O X) 2310 = some mX9_goToSide from rfl).symm.trans hM')
    exact ⟨fun _ => (hb_w 1597 (by decide +kernel)), (hb_w 210 (by decide +kernel)), by decide +kernel, fun _ => ⟨(hb_w 1599 (by decide +kernel)), (hb_w 54 (by decide +kernel)), _, rfl, rfl⟩, fun h => absurd h (by decide), fun h => absurd h (by decide), fun h => absurd h (by decide)⟩
  · cases h
    refine ⟨fun h => absurd h (by decide), fun h => absurd h (by decide), fun _ M' hM' => ?_⟩
    obtain rfl : mX9_holds = M' := Option.some.inj ((show ab_gM (hb_Gx O X) 2312 = some mX9_holds from rfl).symm.trans hM')
    exact ⟨fun _ => (hb_w 1605 (by decide +kernel)), (hb_w 210 (by decide +kernel)), by decide +kernel, fun _ => ⟨(hb_w 1607 (by decide +kernel)), (hb_w 55 (by decide +kernel)), _, rfl, rfl⟩, fun h => absurd h (by decide), fun h => absurd h (by decide), fun h => absurd h (by decide)⟩
  · cases h
theorem hb_T10_ok (O : Nat → Option String) (X : ab_X) : ∀ (ix sort y na ci : Nat), hb_T10 ix = some (sort, y, na, ci) → ∀ M : ab_MI, ab_mo M = 10 → (ab_my M).cls = RX10 →
    (sort = 4 → Cond.methodLink (ab_my M).cls ix objectInit ∈ hb_TB ∧ Cond.instanceMethod objectInit ∈ hb_TB ∧ Cond.code objectInit ⟨#[0xb1]⟩ 1 none ∈ hb_TB) ∧
    (sort = 5 → Cond.methodLink (ab_my M).cls ix arraycopyName ∈ hb_TB ∧ Cond.native arraycopyName ∈ hb_TB ∧ Cond.static arraycopyName ∈ hb_TB ∧ Cond.initialized "java/lang/System" ∈ hb_TB) ∧
    (sort < 4 ∨ sort = 6 → ∀ M' : ab_MI, ab_gM (hb_Gx O X) y = some M' → (sort ≠ 3 → Cond.methodLink (ab_my M).cls ix (ab_my M') ∈ hb_TB) ∧ Cond.initialized (ab_my M').cls ∈ hb_TB ∧ ((ab_my M').cls ≠ "java/lang/invoke/MethodHandle" ∧ (ab_my M').cls ≠ "java/lang/invoke/VarHandle" ∧ (parseMethodDescriptor (ab_my M').desc).map (fun d => d.parameters.length) = some na) ∧
      (sort = 0 → Cond.instanceMethod (ab_my M') ∈ hb_TB ∧ Cond.selects (ab_my M').cls (ab_my M') (ab_my M') ∈ hb_TB ∧ ∃ q : vw_C, (ab_gK (hb_Gx O X))[ci]? = some q ∧ q.1 = (ab_my M').cls) ∧
      (sort = 1 → Cond.static (ab_my M') ∈ hb_TB) ∧
      (sort = 6 → Cond.instanceMethod (ab_my M') ∈ hb_TB ∧ Cond.selects (ab_my M').cls (ab_my M') (ab_my M') ∈ hb_TB ∧ (ab_my M').cls = "java/lang/String") ∧
      (sort = 2 ∨ sort = 3 → (ab_my M').name = "<init>" ∧ Cond.instanceMethod (ab_my M') ∈ hb_TB ∧ ab_mr M' = none)) := by
  intro ix sort y na ci h M _ hcl
  rw [hcl]
  unfold hb_T10 at h
  split at h
  · cases h
    exact ⟨fun _ => ⟨(hb_w 837 (by decide +kernel)), (hb_w 247 (by decide +kernel)), (hb_w 248 (by decide +kernel))⟩, fun h => absurd h (by decide), fun h => absurd h (by decide)⟩
  · cases h
    refine ⟨fun h => absurd h (by decide), fun h => absurd h (by decide), fun _ M' hM' => ?_⟩
    obtain rfl : mX9_init = M' := Option.some.inj ((show ab_gM (hb_Gx O X) 2304 = some mX9_init from rfl).symm.trans hM')
    exact ⟨fun _ => (hb_w 839 (by decide +kernel)), (hb_w 210 (by decide +kernel)), by decide +kernel, fun h => absurd h (by decide), fun h => absurd h (by decide), fun h => absurd h (by decide), fun _ => ⟨rfl, (hb_w 734 (by decide +kernel)), rfl⟩⟩
  · cases h
    refine ⟨fun h => absurd h (by decide), fun h => absurd h (by decide), fun _ M' hM' => ?_⟩
    obtain rfl : mX10_goToRow = M' := Option.some.inj ((show ab_gM (hb_Gx O X) 2562 = some mX10_goToRow from rfl).symm.trans hM')
    exact ⟨fun _ => (hb_w 1695 (by decide +kernel)), (hb_w 212 (by decide +kernel)), by decide +kernel, fun _ => ⟨(hb_w 1697 (by decide +kernel)), (hb_w 64 (by decide +kernel)), _, rfl, rfl⟩, fun h => absurd h (by decide), fun h => absurd h (by decide), fun h => absurd h (by decide)⟩
  · cases h
    refine ⟨fun h => absurd h (by decide), fun h => absurd h (by decide), fun _ M' hM' => ?_⟩
    obtain rfl : mX10_gatherFitting = M' := Option.some.inj ((show ab_gM (hb_Gx O X) 2564 = some mX10_gatherFitting from rfl).symm.trans hM')
    exact ⟨fun _ => (hb_w 1699 (by decide +kernel)), (hb_w 212 (by decide +kernel)), by decide +kernel, fun _ => ⟨(hb_w 1701 (by decide +kernel)), (hb_w 65 (by decide +kernel)), _, rfl, rfl⟩, fun h => absurd h (by decide), fun h => absurd h (by decide), fun h => absurd h (by decide)⟩
  · cases h
    refine ⟨fun h => absurd h (by decide), fun h => absurd h (by decide), fun _ M' hM' => ?_⟩
    obtain rfl : mX10_judgeRow = M' := Option.some.inj ((show ab_gM (hb_Gx O X) 2565 = some mX10_judgeRow from rfl).symm.trans hM')
    exact ⟨fun _ => (hb_w 1715 (by decide +kernel)), (hb_w 212 (by decide +kernel)), by decide +kernel, fun _ => ⟨(hb_w 1717 (by decide +kernel)), (hb_w 66 (by decide +kernel)), _, rfl, rfl⟩, fun h => absurd h (by decide), fun h => absurd h (by decide), fun h => absurd h (by decide)⟩
  · cases h
    refine ⟨fun h => absurd h (by decide), fun h => absurd h (by decide), fun _ M' hM' => ?_⟩
    obtain rfl : mX10_keepKinds = M' := Option.some.inj ((show ab_gM (hb_Gx O X) 2563 = some mX10_keepKinds from rfl).symm.trans hM')
    exact ⟨fun _ => (hb_w 1730 (by decide +kernel)), (hb_w 212 (by decide +kernel)), by decide +kernel, fun _ => ⟨(hb_w 1732 (by decide +kernel)), (hb_w 68 (by decide +kernel)), _, rfl, rfl⟩, fun h => absurd h (by decide), fun h => absurd h (by decide), fun h => absurd h (by decide)⟩
  · cases h
    refine ⟨fun h => absurd h (by decide), fun h => absurd h (by decide), fun _ M' hM' => ?_⟩
    obtain rfl : mX11_listFor = M' := Option.some.inj ((show ab_gM (hb_Gx O X) 2828 = some mX11_listFor from rfl).symm.trans hM')
    exact ⟨fun _ => (hb_w 1703 (by decide +kernel)), (hb_w 197 (by decide +kernel)), by decide +kernel, fun _ => ⟨(hb_w 1704 (by decide +kernel)), (hb_w 1705 (by decide +kernel)), _, rfl, rfl⟩, fun h => absurd h (by decide), fun h => absurd h (by decide), fun h => absurd h (by decide)⟩
  · cases h
    refine ⟨fun h => absurd h (by decide), fun h => absurd h (by decide), fun _ M' hM' => ?_⟩
    obtain rfl : mX5_asked = M' := Option.some.inj ((show ab_gM (hb_Gx O X) 1284 = some mX5_asked from rfl).symm.trans hM')
    exact ⟨fun _ => (hb_w 1714 (by decide +kernel)), (hb_w 199 (by decide +kernel)), by decide +kernel, fun _ => ⟨(hb_w 1565 (by decide +kernel)), (hb_w 1566 (by decide +kernel)), _, rfl, rfl⟩, fun h => absurd h (by decide), fun h => absurd h (by decide), fun h => absurd h (by decide)⟩
  · cases h
    refine ⟨fun h => absurd h (by decide), fun h => absurd h (by decide), fun _ M' hM' => ?_⟩
    obtain rfl : mX9_empty = M' := Option.some.inj ((show ab_gM (hb_Gx O X) 2305 = some mX9_empty from rfl).symm.trans hM')
    exact ⟨fun _ => (hb_w 1719 (by decide +kernel)), (hb_w 210 (by decide +kernel)), by decide +kernel, fun _ => ⟨(hb_w 1574 (by decide +kernel)), (hb_w 1575 (by decide +kernel)), _, rfl, rfl⟩, fun h => absurd h (by decide), fun h => absurd h (by decide), fun h => absurd h (by decide)⟩
  · cases h
    refine ⟨fun h => absurd h (by decide), fun h => absurd h (by decide), fun _ M' hM' => ?_⟩
    obtain rfl : mX9_cutBy = M' := Option.some.inj ((show ab_gM (hb_Gx O X) 2306 = some mX9_cutBy from rfl).symm.trans hM')
    exact ⟨fun _ => (hb_w 1720 (by decide +kernel)), (hb_w 210 (by decide +kernel)), by decide +kernel, fun _ => ⟨(hb_w 1578 (by decide +kernel)), (hb_w 1579 (by decide +kernel)), _, rfl, rfl⟩, fun h => absurd h (by decide), fun h => absurd h (by decide), fun h => absurd h (by decide)⟩
  · cases h
    refine ⟨fun h => absurd h (by decide), fun h => absurd h (by decide), fun _ M' hM' => ?_⟩
    obtain rfl : mX9_begin = M' := Option.some.inj ((show ab_gM (hb_Gx O X) 2308 = some mX9_begin from rfl).symm.trans hM')
    exact ⟨fun _ => (hb_w 1721 (by decide +kernel)), (hb_w 210 (by decide +kernel)), by decide +kernel, fun _ => ⟨(hb_w 1588 (by decide +kernel)), (hb_w 1589 (by decide +kernel)), _, rfl, rfl⟩, fun h => absurd h (by decide), fun h => absurd h (by decide), fun h => absurd h (by decide)⟩
  · cases h
    refine ⟨fun h => absurd h (by decide), fun h => absurd h (by decide), fun _ M' hM' => ?_⟩
    obtain rfl : mX9_toNextCell = M' := Option.some.inj ((show ab_gM (hb_Gx O X) 2309 = some mX9_toNextCell from rfl).symm.trans hM')
    exact ⟨fun _ => (hb_w 1723 (by decide +kernel)), (hb_w 210 (by decide +kernel)), by decide +kernel, fun _ => ⟨(hb_w 1593 (by decide +kernel)), (hb_w 1594 (by decide +kernel)), _, rfl, rfl⟩, fun h => absurd h (by decide), fun h => absurd h (by decide), fun h => absurd h (by decide)⟩
  · cases h
    refine ⟨fun h => absurd h (by decide), fun h => absurd h (by decide), fun _ M' hM' => ?_⟩
    obtain rfl : mX9_isTakenBy = M' := Option.some.inj ((show ab_gM (hb_Gx O X) 2311 = some mX9_isTakenBy from rfl).symm.trans hM')
    exact ⟨fun _ => (hb_w 1724 (by decide +kernel)), (hb_w 210 (by decide +kernel)), by decide +kernel, fun _ => ⟨(hb_w 1602 (by decide +kernel)), (hb_w 1603 (by decide +kernel)), _, rfl, rfl⟩, fun h => absurd h (by decide), fun h => absurd h (by decide), fun h => absurd h (by decide)⟩
  · cases h
    refine ⟨fun h => absurd h (by decide), fun h => absurd h (by decide), fun _ M' hM' => ?_⟩
    obtain rfl : mX10_hasNearest = M' := Option.some.inj ((show ab_gM (hb_Gx O X) 2566 = some mX10_hasNearest from rfl).symm.trans hM')
    exact ⟨fun _ => (hb_w 1725 (by decide +kernel)), (hb_w 212 (by decide +kernel)), by decide +kernel, fun _ => ⟨(hb_w 1727 (by decide +kernel)), (hb_w 67 (by decide +kernel)), _, rfl, rfl⟩, fun h => absurd h (by decide), fun h => absurd h (by decide), fun h => absurd h (by decide)⟩
  · cases h
    refine ⟨fun h => absurd h (by decide), fun h => absurd h (by decide), fun _ M' hM' => ?_⟩
    obtain rfl : mX6_compare = M' := Option.some.inj ((show ab_gM (hb_Gx O X) 1538 = some mX6_compare from rfl).symm.trans hM')
    exact ⟨fun _ => (hb_w 1729 (by decide +kernel)), (hb_w 209 (by decide +kernel)), by decide +kernel, fun _ => ⟨(hb_w 1556 (by decide +kernel)), (hb_w 1557 (by decide +kernel)), _, rfl, rfl⟩, fun h => absurd h (by decide), fun h => absurd h (by decide), fun h => absurd h (by decide)⟩
  · cases h
theorem hb_T11_ok (O : Nat → Option String) (X : ab_X) : ∀ (ix sort y na ci : Nat), hb_T11 ix = some (sort, y, na, ci) → ∀ M : ab_MI, ab_mo M = 11 → (ab_my M).cls = RX11 →
    (sort = 4 → Cond.methodLink (ab_my M).cls ix objectInit ∈ hb_TB ∧ Cond.instanceMethod objectInit ∈ hb_TB ∧ Cond.code objectInit ⟨#[0xb1]⟩ 1 none ∈ hb_TB) ∧
    (sort = 5 → Cond.methodLink (ab_my M).cls ix arraycopyName ∈ hb_TB ∧ Cond.native arraycopyName ∈ hb_TB ∧ Cond.static arraycopyName ∈ hb_TB ∧ Cond.initialized "java/lang/System" ∈ hb_TB) ∧
    (sort < 4 ∨ sort = 6 → ∀ M' : ab_MI, ab_gM (hb_Gx O X) y = some M' → (sort ≠ 3 → Cond.methodLink (ab_my M).cls ix (ab_my M') ∈ hb_TB) ∧ Cond.initialized (ab_my M').cls ∈ hb_TB ∧ ((ab_my M').cls ≠ "java/lang/invoke/MethodHandle" ∧ (ab_my M').cls ≠ "java/lang/invoke/VarHandle" ∧ (parseMethodDescriptor (ab_my M').desc).map (fun d => d.parameters.length) = some na) ∧
      (sort = 0 → Cond.instanceMethod (ab_my M') ∈ hb_TB ∧ Cond.selects (ab_my M').cls (ab_my M') (ab_my M') ∈ hb_TB ∧ ∃ q : vw_C, (ab_gK (hb_Gx O X))[ci]? = some q ∧ q.1 = (ab_my M').cls) ∧
      (sort = 1 → Cond.static (ab_my M') ∈ hb_TB) ∧
      (sort = 6 → Cond.instanceMethod (ab_my M') ∈ hb_TB ∧ Cond.selects (ab_my M').cls (ab_my M') (ab_my M') ∈ hb_TB ∧ (ab_my M').cls = "java/lang/String") ∧
      (sort = 2 ∨ sort = 3 → (ab_my M').name = "<init>" ∧ Cond.instanceMethod (ab_my M') ∈ hb_TB ∧ ab_mr M' = none)) := by
  intro ix sort y na ci h M _ hcl
  rw [hcl]
  unfold hb_T11 at h
  split at h
  · cases h
    exact ⟨fun _ => ⟨(hb_w 254 (by decide +kernel)), (hb_w 247 (by decide +kernel)), (hb_w 248 (by decide +kernel))⟩, fun h => absurd h (by decide), fun h => absurd h (by decide)⟩
  · cases h
    refine ⟨fun h => absurd h (by decide), fun h => absurd h (by decide), fun _ M' hM' => ?_⟩
    obtain rfl : mX2_init = M' := Option.some.inj ((show ab_gM (hb_Gx O X) 512 = some mX2_init from rfl).symm.trans hM')
    exact ⟨fun h => absurd rfl h, (hb_w 198 (by decide +kernel)), by decide +kernel, fun h => absurd h (by decide), fun h => absurd h (by decide), fun h => absurd h (by decide), fun _ => ⟨rfl, (hb_w 258 (by decide +kernel)), rfl⟩⟩
  · cases h
    refine ⟨fun h => absurd h (by decide), fun h => absurd h (by decide), fun _ M' hM' => ?_⟩
    obtain rfl : mX5_init = M' := Option.some.inj ((show ab_gM (hb_Gx O X) 1280 = some mX5_init from rfl).symm.trans hM')
    exact ⟨fun h => absurd rfl h, (hb_w 199 (by decide +kernel)), by decide +kernel, fun h => absurd h (by decide), fun h => absurd h (by decide), fun h => absurd h (by decide), fun _ => ⟨rfl, (hb_w 295 (by decide +kernel)), rfl⟩⟩
  · cases h
    refine ⟨fun h => absurd h (by decide), fun h => absurd h (by decide), fun _ M' hM' => ?_⟩
    obtain rfl : mX1_init = M' := Option.some.inj ((show ab_gM (hb_Gx O X) 256 = some mX1_init from rfl).symm.trans hM')
    exact ⟨fun h => absurd rfl h, (hb_w 200 (by decide +kernel)), by decide +kernel, fun h => absurd h (by decide), fun h => absurd h (by decide), fun h => absurd h (by decide), fun _ => ⟨rfl, (hb_w 387 (by decide +kernel)), rfl⟩⟩
  · cases h
    refine ⟨fun h => absurd h (by decide), fun h => absurd h (by decide), fun _ M' hM' => ?_⟩
    obtain rfl : mX8_packed = M' := Option.some.inj ((show ab_gM (hb_Gx O X) 2056 = some mX8_packed from rfl).symm.trans hM')
    exact ⟨fun _ => (hb_w 413 (by decide +kernel)), (hb_w 201 (by decide +kernel)), by decide +kernel, fun h => absurd h (by decide), fun _ => (hb_w 414 (by decide +kernel)), fun h => absurd h (by decide), fun h => absurd h (by decide)⟩
  · cases h
    refine ⟨fun h => absurd h (by decide), fun h => absurd h (by decide), fun _ M' hM' => ?_⟩
    obtain rfl : mX11_addName = M' := Option.some.inj ((show ab_gM (hb_Gx O X) 2821 = some mX11_addName from rfl).symm.trans hM')
    exact ⟨fun _ => (hb_w 467 (by decide +kernel)), (hb_w 197 (by decide +kernel)), by decide +kernel, fun _ => ⟨(hb_w 468 (by decide +kernel)), (hb_w 469 (by decide +kernel)), _, rfl, rfl⟩, fun h => absurd h (by decide), fun h => absurd h (by decide), fun h => absurd h (by decide)⟩
  · cases h
    refine ⟨fun h => absurd h (by decide), fun h => absurd h (by decide), fun _ M' hM' => ?_⟩
    obtain rfl : mX2_make = M' := Option.some.inj ((show ab_gM (hb_Gx O X) 518 = some mX2_make from rfl).symm.trans hM')
    exact ⟨fun _ => (hb_w 481 (by decide +kernel)), (hb_w 198 (by decide +kernel)), by decide +kernel, fun _ => ⟨(hb_w 482 (by decide +kernel)), (hb_w 483 (by decide +kernel)), _, rfl, rfl⟩, fun h => absurd h (by decide), fun h => absurd h (by decide), fun h => absurd h (by decide)⟩
  · cases h
    refine ⟨fun h => absurd h (by decide), fun h => absurd h (by decide), fun _ M' hM' => ?_⟩
    obtain rfl : mX2_addParent = M' := Option.some.inj ((show ab_gM (hb_Gx O X) 517 = some mX2_addParent from rfl).symm.trans hM')
    exact ⟨fun _ => (hb_w 530 (by decide +kernel)), (hb_w 198 (by decide +kernel)), by decide +kernel, fun _ => ⟨(hb_w 531 (by decide +kernel)), (hb_w 532 (by decide +kernel)), _, rfl, rfl⟩, fun h => absurd h (by decide), fun h => absurd h (by decide), fun h => absurd h (by decide)⟩
  · cases h
    refine ⟨fun h => absurd h (by decide), fun h => absurd h (by decide), fun _ M' hM' => ?_⟩
    obtain rfl : mX11_takeStock = M' := Option.some.inj ((show ab_gM (hb_Gx O X) 2825 = some mX11_takeStock from rfl).symm.trans hM')
    exact ⟨fun _ => (hb_w 534 (by decide +kernel)), (hb_w 197 (by decide +kernel)), by decide +kernel, fun _ => ⟨(hb_w 535 (by decide +kernel)), (hb_w 536 (by decide +kernel)), _, rfl, rfl⟩, fun h => absurd h (by decide), fun h => absurd h (by decide), fun h => absurd h (by decide)⟩
  · cases h
    refine ⟨fun h => absurd h (by decide), fun h => absurd h (by decide), fun _ M' hM' => ?_⟩
    obtain rfl : mX11_find = M' := Option.some.inj ((show ab_gM (hb_Gx O X) 2818 = some mX11_find from rfl).symm.trans hM')
    exact ⟨fun _ => (hb_w 1183 (by decide +kernel)), (hb_w 197 (by decide +kernel)), by decide +kernel, fun _ => ⟨(hb_w 1184 (by decide +kernel)), (hb_w 1185 (by decide +kernel)), _, rfl, rfl⟩, fun h => absurd h (by decide), fun h => absurd h (by decide), fun h => absurd h (by decide)⟩
  · cases h
    refine ⟨fun h => absurd h (by decide), fun h => absurd h (by decide), fun _ M' hM' => ?_⟩
    obtain rfl : mX11_isFull = M' := Option.some.inj ((show ab_gM (hb_Gx O X) 2820 = some mX11_isFull from rfl).symm.trans hM')
    exact ⟨fun _ => (hb_w 471 (by decide +kernel)), (hb_w 197 (by decide +kernel)), by decide +kernel, fun _ => ⟨(hb_w 472 (by decide +kernel)), (hb_w 473 (by decide +kernel)), _, rfl, rfl⟩, fun h => absurd h (by decide), fun h => absurd h (by decide), fun h => absurd h (by decide)⟩
  · cases h
    exact ⟨fun h => absurd h (by decide), fun _ => ⟨(hb_w 1160 (by decide +kernel)), (hb_w 1162 (by decide +kernel)), (hb_w 1161 (by decide +kernel)), (hb_w 232 (by decide +kernel))⟩, fun h => absurd h (by decide)⟩
  · cases h
    refine ⟨fun h => absurd h (by decide), fun h => absurd h (by decide), fun _ M' hM' => ?_⟩
    obtain rfl : mJ7_fill_d0a16 = M' := Option.some.inj ((show ab_gM (hb_Gx O X) 11264 = some mJ7_fill_d0a16 from rfl).symm.trans hM')
    exact ⟨fun _ => (hb_w 538 (by decide +kernel)), (hb_w 207 (by decide +kernel)), by decide +kernel, fun h => absurd h (by decide), fun _ => (hb_w 539 (by decide +kernel)), fun h => absurd h (by decide), fun h => absurd h (by decide)⟩
  · cases h
    refine ⟨fun h => absurd h (by decide), fun h => absurd h (by decide), fun _ M' hM' => ?_⟩
    obtain rfl : mX5_isThere = M' := Option.some.inj ((show ab_gM (hb_Gx O X) 1281 = some mX5_isThere from rfl).symm.trans hM')
    exact ⟨fun _ => (hb_w 541 (by decide +kernel)), (hb_w 199 (by decide +kernel)), by decide +kernel, fun _ => ⟨(hb_w 542 (by decide +kernel)), (hb_w 543 (by decide +kernel)), _, rfl, rfl⟩, fun h => absurd h (by decide), fun h => absurd h (by decide), fun h => absurd h (by decide)⟩
  · cases h
    refine ⟨fun h => absurd h (by decide), fun h => absurd h (by decide), fun _ M' hM' => ?_⟩
    obtain rfl : mX11_takeStockOf = M' := Option.some.inj ((show ab_gM (hb_Gx O X) 2826 = some mX11_takeStockOf from rfl).symm.trans hM')
    exact ⟨fun _ => (hb_w 545 (by decide +kernel)), (hb_w 197 (by decide +kernel)), by decide +kernel, fun _ => ⟨(hb_w 547 (by decide +kernel)), (hb_w 8 (by decide +kernel)), _, rfl, rfl⟩, fun h => absurd h (by decide), fun h => absurd h (by decide), fun h => absurd h (by decide)⟩
  · cases h
    refine ⟨fun h => absurd h (by decide), fun h => absurd h (by decide), fun _ M' hM' => ?_⟩
    obtain rfl : mX2_isBelow = M' := Option.some.inj ((show ab_gM (hb_Gx O X) 513 = some mX2_isBelow from rfl).symm.trans hM')
    exact ⟨fun _ => (hb_w 549 (by decide +kernel)), (hb_w 198 (by decide +kernel)), by decide +kernel, fun _ => ⟨(hb_w 550 (by decide +kernel)), (hb_w 551 (by decide +kernel)), _, rfl, rfl⟩, fun h => absurd h (by decide), fun h => absurd h (by decide), fun h => absurd h (by decide)⟩
  · cases h
    refine ⟨fun h => absurd h (by decide), fun h => absurd h (by decide), fun _ M' hM' => ?_⟩
    obtain rfl : mJ13_bitCount_95d88 = M' := Option.some.inj ((show ab_gM (hb_Gx O X) 8961 = some mJ13_bitCount_95d88 from rfl).symm.trans hM')
    exact ⟨fun _ => (hb_w 1628 (by decide +kernel)), (hb_w 239 (by decide +kernel)), by decide +kernel, fun h => absurd h (by decide), fun _ => (hb_w 1629 (by decide +kernel)), fun h => absurd h (by decide), fun h => absurd h (by decide)⟩
  · cases h
    refine ⟨fun h => absurd h (by decide), fun h => absurd h (by decide), fun _ M' hM' => ?_⟩
    obtain rfl : mJ13_numberOfTrailingZeros_95d88 = M' := Option.some.inj ((show ab_gM (hb_Gx O X) 8960 = some mJ13_numberOfTrailingZeros_95d88 from rfl).symm.trans hM')
    exact ⟨fun _ => (hb_w 1707 (by decide +kernel)), (hb_w 239 (by decide +kernel)), by decide +kernel, fun h => absurd h (by decide), fun _ => (hb_w 1708 (by decide +kernel)), fun h => absurd h (by decide), fun h => absurd h (by decide)⟩
  · cases h
theorem hb_T12_ok (O : Nat → Option String) (X : ab_X) : ∀ (ix sort y na ci : Nat), hb_T12 ix = some (sort, y, na, ci) → ∀ M : ab_MI, ab_mo M = 12 → (ab_my M).cls = RX12 →
    (sort = 4 → Cond.methodLink (ab_my M).cls ix objectInit ∈ hb_TB ∧ Cond.instanceMethod objectInit ∈ hb_TB ∧ Cond.code objectInit ⟨#[0xb1]⟩ 1 none ∈ hb_TB) ∧
    (sort = 5 → Cond.methodLink (ab_my M).cls ix arraycopyName ∈ hb_TB ∧ Cond.native arraycopyName ∈ hb_TB ∧ Cond.static arraycopyName ∈ hb_TB ∧ Cond.initialized "java/lang/System" ∈ hb_TB) ∧
    (sort < 4 ∨ sort = 6 → ∀ M' : ab_MI, ab_gM (hb_Gx O X) y = some M' → (sort ≠ 3 → Cond.methodLink (ab_my M).cls ix (ab_my M') ∈ hb_TB) ∧ Cond.initialized (ab_my M').cls ∈ hb_TB ∧ ((ab_my M').cls ≠ "java/lang/invoke/MethodHandle" ∧ (ab_my M').cls ≠ "java/lang/invoke/VarHandle" ∧ (parseMethodDescriptor (ab_my M').desc).map (fun d => d.parameters.length) = some na) ∧
      (sort = 0 → Cond.instanceMethod (ab_my M') ∈ hb_TB ∧ Cond.selects (ab_my M').cls (ab_my M') (ab_my M') ∈ hb_TB ∧ ∃ q : vw_C, (ab_gK (hb_Gx O X))[ci]? = some q ∧ q.1 = (ab_my M').cls) ∧
      (sort = 1 → Cond.static (ab_my M') ∈ hb_TB) ∧
      (sort = 6 → Cond.instanceMethod (ab_my M') ∈ hb_TB ∧ Cond.selects (ab_my M').cls (ab_my M') (ab_my M') ∈ hb_TB ∧ (ab_my M').cls = "java/lang/String") ∧
      (sort = 2 ∨ sort = 3 → (ab_my M').name = "<init>" ∧ Cond.instanceMethod (ab_my M') ∈ hb_TB ∧ ab_mr M' = none)) := by
  intro ix sort y na ci h M _ hcl
  rw [hcl]
  unfold hb_T12 at h
  split at h
  · cases h
    exact ⟨fun _ => ⟨(hb_w 246 (by decide +kernel)), (hb_w 247 (by decide +kernel)), (hb_w 248 (by decide +kernel))⟩, fun h => absurd h (by decide), fun h => absurd h (by decide)⟩
  · cases h
    refine ⟨fun h => absurd h (by decide), fun h => absurd h (by decide), fun _ M' hM' => ?_⟩
    obtain rfl : mX11_init = M' := Option.some.inj ((show ab_gM (hb_Gx O X) 2816 = some mX11_init from rfl).symm.trans hM')
    exact ⟨fun _ => (hb_w 251 (by decide +kernel)), (hb_w 197 (by decide +kernel)), by decide +kernel, fun h => absurd h (by decide), fun h => absurd h (by decide), fun h => absurd h (by decide), fun _ => ⟨rfl, (hb_w 252 (by decide +kernel)), rfl⟩⟩
  · cases h
    refine ⟨fun h => absurd h (by decide), fun h => absurd h (by decide), fun _ M' hM' => ?_⟩
    obtain rfl : mX7_init = M' := Option.some.inj ((show ab_gM (hb_Gx O X) 1792 = some mX7_init from rfl).symm.trans hM')
    exact ⟨fun _ => (hb_w 653 (by decide +kernel)), (hb_w 208 (by decide +kernel)), by decide +kernel, fun h => absurd h (by decide), fun h => absurd h (by decide), fun h => absurd h (by decide), fun _ => ⟨rfl, (hb_w 654 (by decide +kernel)), rfl⟩⟩
  · cases h
    refine ⟨fun h => absurd h (by decide), fun h => absurd h (by decide), fun _ M' hM' => ?_⟩
    obtain rfl : mX6_init = M' := Option.some.inj ((show ab_gM (hb_Gx O X) 1536 = some mX6_init from rfl).symm.trans hM')
    exact ⟨fun _ => (hb_w 727 (by decide +kernel)), (hb_w 209 (by decide +kernel)), by decide +kernel, fun h => absurd h (by decide), fun h => absurd h (by decide), fun h => absurd h (by decide), fun _ => ⟨rfl, (hb_w 728 (by decide +kernel)), rfl⟩⟩
  · cases h
    refine ⟨fun h => absurd h (by decide), fun h => absurd h (by decide), fun _ M' hM' => ?_⟩
    obtain rfl : mX3_init = M' := Option.some.inj ((show ab_gM (hb_Gx O X) 768 = some mX3_init from rfl).symm.trans hM')
    exact ⟨fun _ => (hb_w 788 (by decide +kernel)), (hb_w 211 (by decide +kernel)), by decide +kernel, fun h => absurd h (by decide), fun h => absurd h (by decide), fun h => absurd h (by decide), fun _ => ⟨rfl, (hb_w 789 (by decide +kernel)), rfl⟩⟩
  · cases h
    refine ⟨fun h => absurd h (by decide), fun h => absurd h (by decide), fun _ M' hM' => ?_⟩
    obtain rfl : mX10_init = M' := Option.some.inj ((show ab_gM (hb_Gx O X) 2560 = some mX10_init from rfl).symm.trans hM')
    exact ⟨fun _ => (hb_w 834 (by decide +kernel)), (hb_w 212 (by decide +kernel)), by decide +kernel, fun h => absurd h (by decide), fun h => absurd h (by decide), fun h => absurd h (by decide), fun _ => ⟨rfl, (hb_w 835 (by decide +kernel)), rfl⟩⟩
  · cases h
    refine ⟨fun h => absurd h (by decide), fun h => absurd h (by decide), fun _ M' hM' => ?_⟩
    obtain rfl : mX0_init = M' := Option.some.inj ((show ab_gM (hb_Gx O X) 0 = some mX0_init from rfl).symm.trans hM')
    exact ⟨fun _ => (hb_w 882 (by decide +kernel)), (hb_w 214 (by decide +kernel)), by decide +kernel, fun h => absurd h (by decide), fun h => absurd h (by decide), fun h => absurd h (by decide), fun _ => ⟨rfl, (hb_w 883 (by decide +kernel)), rfl⟩⟩
  · cases h
    refine ⟨fun h => absurd h (by decide), fun h => absurd h (by decide), fun _ M' hM' => ?_⟩
    obtain rfl : mX4_init = M' := Option.some.inj ((show ab_gM (hb_Gx O X) 1024 = some mX4_init from rfl).symm.trans hM')
    exact ⟨fun _ => (hb_w 932 (by decide +kernel)), (hb_w 213 (by decide +kernel)), by decide +kernel, fun h => absurd h (by decide), fun h => absurd h (by decide), fun h => absurd h (by decide), fun _ => ⟨rfl, (hb_w 933 (by decide +kernel)), rfl⟩⟩
  · cases h
    refine ⟨fun h => absurd h (by decide), fun h => absurd h (by decide), fun _ M' hM' => ?_⟩
    obtain rfl : mJ9_min_7cf53 = M' := Option.some.inj ((show ab_gM (hb_Gx O X) 9217 = some mJ9_min_7cf53 from rfl).symm.trans hM')
    exact ⟨fun _ => (hb_w 1464 (by decide +kernel)), (hb_w 231 (by decide +kernel)), by decide +kernel, fun h => absurd h (by decide), fun _ => (hb_w 1112 (by decide +kernel)), fun h => absurd h (by decide), fun h => absurd h (by decide)⟩
  · cases h
    refine ⟨fun h => absurd h (by decide), fun h => absurd h (by decide), fun _ M' hM' => ?_⟩
    obtain rfl : mJ7_copyOf_9075b = M' := Option.some.inj ((show ab_gM (hb_Gx O X) 11268 = some mJ7_copyOf_9075b from rfl).symm.trans hM')
    exact ⟨fun _ => (hb_w 1465 (by decide +kernel)), (hb_w 207 (by decide +kernel)), by decide +kernel, fun h => absurd h (by decide), fun _ => (hb_w 1466 (by decide +kernel)), fun h => absurd h (by decide), fun h => absurd h (by decide)⟩
  · cases h
    refine ⟨fun h => absurd h (by decide), fun h => absurd h (by decide), fun _ M' hM' => ?_⟩
    obtain rfl : mX12_putOnTape = M' := Option.some.inj ((show ab_gM (hb_Gx O X) 3074 = some mX12_putOnTape from rfl).symm.trans hM')
    exact ⟨fun _ => (hb_w 1473 (by decide +kernel)), (hb_w 196 (by decide +kernel)), by decide +kernel, fun _ => ⟨(hb_w 1475 (by decide +kernel)), (hb_w 50 (by decide +kernel)), _, rfl, rfl⟩, fun h => absurd h (by decide), fun h => absurd h (by decide), fun h => absurd h (by decide)⟩
  · cases h
    refine ⟨fun h => absurd h (by decide), fun h => absurd h (by decide), fun _ M' hM' => ?_⟩
    obtain rfl : mX7_readText = M' := Option.some.inj ((show ab_gM (hb_Gx O X) 1793 = some mX7_readText from rfl).symm.trans hM')
    exact ⟨fun _ => (hb_w 1050 (by decide +kernel)), (hb_w 208 (by decide +kernel)), by decide +kernel, fun _ => ⟨(hb_w 1051 (by decide +kernel)), (hb_w 1052 (by decide +kernel)), _, rfl, rfl⟩, fun h => absurd h (by decide), fun h => absurd h (by decide), fun h => absurd h (by decide)⟩
  · cases h
    refine ⟨fun h => absurd h (by decide), fun h => absurd h (by decide), fun _ M' hM' => ?_⟩
    obtain rfl : mX7_readProgram = M' := Option.some.inj ((show ab_gM (hb_Gx O X) 1794 = some mX7_readProgram from rfl).symm.trans hM')
    exact ⟨fun _ => (hb_w 1372 (by decide +kernel)), (hb_w 208 (by decide +kernel)), by decide +kernel, fun _ => ⟨(hb_w 1373 (by decide +kernel)), (hb_w 1374 (by decide +kernel)), _, rfl, rfl⟩, fun h => absurd h (by decide), fun h => absurd h (by decide), fun h => absurd h (by decide)⟩
  · cases h
    refine ⟨fun h => absurd h (by decide), fun h => absurd h (by decide), fun _ M' hM' => ?_⟩
    obtain rfl : mX11_beginAnew = M' := Option.some.inj ((show ab_gM (hb_Gx O X) 2822 = some mX11_beginAnew from rfl).symm.trans hM')
    exact ⟨fun _ => (hb_w 1380 (by decide +kernel)), (hb_w 197 (by decide +kernel)), by decide +kernel, fun _ => ⟨(hb_w 1381 (by decide +kernel)), (hb_w 1382 (by decide +kernel)), _, rfl, rfl⟩, fun h => absurd h (by decide), fun h => absurd h (by decide), fun h => absurd h (by decide)⟩
  · cases h
    refine ⟨fun h => absurd h (by decide), fun h => absurd h (by decide), fun _ M' hM' => ?_⟩
    obtain rfl : mX6_forgetAll = M' := Option.some.inj ((show ab_gM (hb_Gx O X) 1537 = some mX6_forgetAll from rfl).symm.trans hM')
    exact ⟨fun _ => (hb_w 1384 (by decide +kernel)), (hb_w 209 (by decide +kernel)), by decide +kernel, fun _ => ⟨(hb_w 1385 (by decide +kernel)), (hb_w 1386 (by decide +kernel)), _, rfl, rfl⟩, fun h => absurd h (by decide), fun h => absurd h (by decide), fun h => absurd h (by decide)⟩
  · cases h
    refine ⟨fun h => absurd h (by decide), fun h => absurd h (by decide), fun _ M' hM' => ?_⟩
    obtain rfl : mX5_isThere = M' := Option.some.inj ((show ab_gM (hb_Gx O X) 1281 = some mX5_isThere from rfl).symm.trans hM')
    exact ⟨fun _ => (hb_w 1507 (by decide +kernel)), (hb_w 199 (by decide +kernel)), by decide +kernel, fun _ => ⟨(hb_w 542 (by decide +kernel)), (hb_w 543 (by decide +kernel)), _, rfl, rfl⟩, fun h => absurd h (by decide), fun h => absurd h (by decide), fun h => absurd h (by decide)⟩
  · cases h
    refine ⟨fun h => absurd h (by decide), fun h => absurd h (by decide), fun _ M' hM' => ?_⟩
    obtain rfl : mX11_takeStock = M' := Option.some.inj ((show ab_gM (hb_Gx O X) 2825 = some mX11_takeStock from rfl).symm.trans hM')
    exact ⟨fun _ => (hb_w 1508 (by decide +kernel)), (hb_w 197 (by decide +kernel)), by decide +kernel, fun _ => ⟨(hb_w 535 (by decide +kernel)), (hb_w 536 (by decide +kernel)), _, rfl, rfl⟩, fun h => absurd h (by decide), fun h => absurd h (by decide), fun h => absurd h (by decide)⟩
  · cases h
    refine ⟨fun h => absurd h (by decide), fun h => absurd h (by decide), fun _ M' hM' => ?_⟩
    obtain rfl : mX11_isKind = M' := Option.some.inj ((show ab_gM (hb_Gx O X) 2817 = some mX11_isKind from rfl).symm.trans hM')
    exact ⟨fun _ => (hb_w 1531 (by decide +kernel)), (hb_w 197 (by decide +kernel)), by decide +kernel, fun _ => ⟨(hb_w 1532 (by decide +kernel)), (hb_w 1533 (by decide +kernel)), _, rfl, rfl⟩, fun h => absurd h (by decide), fun h => absurd h (by decide), fun h => absurd h (by decide)⟩
  · cases h
    refine ⟨fun h => absurd h (by decide), fun h => absurd h (by decide), fun _ M' hM' => ?_⟩
    obtain rfl : mX2_isBelow = M' := Option.some.inj ((show ab_gM (hb_Gx O X) 513 = some mX2_isBelow from rfl).symm.trans hM')
    exact ⟨fun _ => (hb_w 1535 (by decide +kernel)), (hb_w 198 (by decide +kernel)), by decide +kernel, fun _ => ⟨(hb_w 550 (by decide +kernel)), (hb_w 551 (by decide +kernel)), _, rfl, rfl⟩, fun h => absurd h (by decide), fun h => absurd h (by decide), fun h => absurd h (by decide)⟩
  · cases h
    refine ⟨fun h => absurd h (by decide), fun h => absurd h (by decide), fun _ M' hM' => ?_⟩
    obtain rfl : mX2_inRow = M' := Option.some.inj ((show ab_gM (hb_Gx O X) 514 = some mX2_inRow from rfl).symm.trans hM')
    exact ⟨fun _ => (hb_w 1543 (by decide +kernel)), (hb_w 198 (by decide +kernel)), by decide +kernel, fun _ => ⟨(hb_w 523 (by decide +kernel)), (hb_w 524 (by decide +kernel)), _, rfl, rfl⟩, fun h => absurd h (by decide), fun h => absurd h (by decide), fun h => absurd h (by decide)⟩
  · cases h
    refine ⟨fun h => absurd h (by decide), fun h => absurd h (by decide), fun _ M' hM' => ?_⟩
    obtain rfl : mX11_fits = M' := Option.some.inj ((show ab_gM (hb_Gx O X) 2829 = some mX11_fits from rfl).symm.trans hM')
    exact ⟨fun _ => (hb_w 1551 (by decide +kernel)), (hb_w 197 (by decide +kernel)), by decide +kernel, fun _ => ⟨(hb_w 1552 (by decide +kernel)), (hb_w 1553 (by decide +kernel)), _, rfl, rfl⟩, fun h => absurd h (by decide), fun h => absurd h (by decide), fun h => absurd h (by decide)⟩
  · cases h
    refine ⟨fun h => absurd h (by decide), fun h => absurd h (by decide), fun _ M' hM' => ?_⟩
    obtain rfl : mX6_compare = M' := Option.some.inj ((show ab_gM (hb_Gx O X) 1538 = some mX6_compare from rfl).symm.trans hM')
    exact ⟨fun _ => (hb_w 1555 (by decide +kernel)), (hb_w 209 (by decide +kernel)), by decide +kernel, fun _ => ⟨(hb_w 1556 (by decide +kernel)), (hb_w 1557 (by decide +kernel)), _, rfl, rfl⟩, fun h => absurd h (by decide), fun h => absurd h (by decide), fun h => absurd h (by decide)⟩
  · cases h
    refine ⟨fun h => absurd h (by decide), fun h => absurd h (by decide), fun _ M' hM' => ?_⟩
    obtain rfl : mX11_methodsOf = M' := Option.some.inj ((show ab_gM (hb_Gx O X) 2827 = some mX11_methodsOf from rfl).symm.trans hM')
    exact ⟨fun _ => (hb_w 1624 (by decide +kernel)), (hb_w 197 (by decide +kernel)), by decide +kernel, fun _ => ⟨(hb_w 1625 (by decide +kernel)), (hb_w 1626 (by decide +kernel)), _, rfl, rfl⟩, fun h => absurd h (by decide), fun h => absurd h (by decide), fun h => absurd h (by decide)⟩
  · cases h
    refine ⟨fun h => absurd h (by decide), fun h => absurd h (by decide), fun _ M' hM' => ?_⟩
    obtain rfl : mX3_countLists = M' := Option.some.inj ((show ab_gM (hb_Gx O X) 769 = some mX3_countLists from rfl).symm.trans hM')
    exact ⟨fun _ => (hb_w 1634 (by decide +kernel)), (hb_w 211 (by decide +kernel)), by decide +kernel, fun _ => ⟨(hb_w 1635 (by decide +kernel)), (hb_w 1636 (by decide +kernel)), _, rfl, rfl⟩, fun h => absurd h (by decide), fun h => absurd h (by decide), fun h => absurd h (by decide)⟩
  · cases h
    refine ⟨fun h => absurd h (by decide), fun h => absurd h (by decide), fun _ M' hM' => ?_⟩
    obtain rfl : mX3_countCells = M' := Option.some.inj ((show ab_gM (hb_Gx O X) 770 = some mX3_countCells from rfl).symm.trans hM')
    exact ⟨fun _ => (hb_w 1679 (by decide +kernel)), (hb_w 211 (by decide +kernel)), by decide +kernel, fun _ => ⟨(hb_w 1680 (by decide +kernel)), (hb_w 1681 (by decide +kernel)), _, rfl, rfl⟩, fun h => absurd h (by decide), fun h => absurd h (by decide), fun h => absurd h (by decide)⟩
  · cases h
    refine ⟨fun h => absurd h (by decide), fun h => absurd h (by decide), fun _ M' hM' => ?_⟩
    obtain rfl : mX3_countPressed = M' := Option.some.inj ((show ab_gM (hb_Gx O X) 771 = some mX3_countPressed from rfl).symm.trans hM')
    exact ⟨fun _ => (hb_w 1683 (by decide +kernel)), (hb_w 211 (by decide +kernel)), by decide +kernel, fun _ => ⟨(hb_w 1684 (by decide +kernel)), (hb_w 1685 (by decide +kernel)), _, rfl, rfl⟩, fun h => absurd h (by decide), fun h => absurd h (by decide), fun h => absurd h (by decide)⟩
  · cases h
    refine ⟨fun h => absurd h (by decide), fun h => absurd h (by decide), fun _ M' hM' => ?_⟩
    obtain rfl : mX3_countNodes = M' := Option.some.inj ((show ab_gM (hb_Gx O X) 772 = some mX3_countNodes from rfl).symm.trans hM')
    exact ⟨fun _ => (hb_w 1687 (by decide +kernel)), (hb_w 211 (by decide +kernel)), by decide +kernel, fun _ => ⟨(hb_w 1688 (by decide +kernel)), (hb_w 1689 (by decide +kernel)), _, rfl, rfl⟩, fun h => absurd h (by decide), fun h => absurd h (by decide), fun h => absurd h (by decide)⟩
  · cases h
    refine ⟨fun h => absurd h (by decide), fun h => absurd h (by decide), fun _ M' hM' => ?_⟩
    obtain rfl : mX10_judge = M' := Option.some.inj ((show ab_gM (hb_Gx O X) 2561 = some mX10_judge from rfl).symm.trans hM')
    exact ⟨fun _ => (hb_w 1691 (by decide +kernel)), (hb_w 212 (by decide +kernel)), by decide +kernel, fun _ => ⟨(hb_w 1692 (by decide +kernel)), (hb_w 1693 (by decide +kernel)), _, rfl, rfl⟩, fun h => absurd h (by decide), fun h => absurd h (by decide), fun h => absurd h (by decide)⟩
  · cases h
    refine ⟨fun h => absurd h (by decide), fun h => absurd h (by decide), fun _ M' hM' => ?_⟩
    obtain rfl : mX4_perform = M' := Option.some.inj ((show ab_gM (hb_Gx O X) 1027 = some mX4_perform from rfl).symm.trans hM')
    exact ⟨fun _ => (hb_w 1757 (by decide +kernel)), (hb_w 213 (by decide +kernel)), by decide +kernel, fun _ => ⟨(hb_w 1758 (by decide +kernel)), (hb_w 1759 (by decide +kernel)), _, rfl, rfl⟩, fun h => absurd h (by decide), fun h => absurd h (by decide), fun h => absurd h (by decide)⟩
  · cases h
    refine ⟨fun h => absurd h (by decide), fun h => absurd h (by decide), fun _ M' hM' => ?_⟩
    obtain rfl : mX4_kindOf = M' := Option.some.inj ((show ab_gM (hb_Gx O X) 1025 = some mX4_kindOf from rfl).symm.trans hM')
    exact ⟨fun _ => (hb_w 1927 (by decide +kernel)), (hb_w 213 (by decide +kernel)), by decide +kernel, fun h => absurd h (by decide), fun _ => (hb_w 1783 (by decide +kernel)), fun h => absurd h (by decide), fun h => absurd h (by decide)⟩
  · cases h
    exact ⟨fun h => absurd h (by decide), fun _ => ⟨(hb_w 1942 (by decide +kernel)), (hb_w 1162 (by decide +kernel)), (hb_w 1161 (by decide +kernel)), (hb_w 232 (by decide +kernel))⟩, fun h => absurd h (by decide)⟩
  · cases h
    refine ⟨fun h => absurd h (by decide), fun h => absurd h (by decide), fun _ M' hM' => ?_⟩
    obtain rfl : mX12_byteOfResult = M' := Option.some.inj ((show ab_gM (hb_Gx O X) 3091 = some mX12_byteOfResult from rfl).symm.trans hM')
    exact ⟨fun _ => (hb_w 1950 (by decide +kernel)), (hb_w 196 (by decide +kernel)), by decide +kernel, fun _ => ⟨(hb_w 1952 (by decide +kernel)), (hb_w 96 (by decide +kernel)), _, rfl, rfl⟩, fun h => absurd h (by decide), fun h => absurd h (by decide), fun h => absurd h (by decide)⟩
  · cases h
theorem hb_T13_ok (O : Nat → Option String) (X : ab_X) : ∀ (ix sort y na ci : Nat), hb_T13 ix = some (sort, y, na, ci) → ∀ M : ab_MI, ab_mo M = 13 → (ab_my M).cls = RX13 →
    (sort = 4 → Cond.methodLink (ab_my M).cls ix objectInit ∈ hb_TB ∧ Cond.instanceMethod objectInit ∈ hb_TB ∧ Cond.code objectInit ⟨#[0xb1]⟩ 1 none ∈ hb_TB) ∧
    (sort = 5 → Cond.methodLink (ab_my M).cls ix arraycopyName ∈ hb_TB ∧ Cond.native arraycopyName ∈ hb_TB ∧ Cond.static arraycopyName ∈ hb_TB ∧ Cond.initialized "java/lang/System" ∈ hb_TB) ∧
    (sort < 4 ∨ sort = 6 → ∀ M' : ab_MI, ab_gM (hb_Gx O X) y = some M' → (sort ≠ 3 → Cond.methodLink (ab_my M).cls ix (ab_my M') ∈ hb_TB) ∧ Cond.initialized (ab_my M').cls ∈ hb_TB ∧ ((ab_my M').cls ≠ "java/lang/invoke/MethodHandle" ∧ (ab_my M').cls ≠ "java/lang/invoke/VarHandle" ∧ (parseMethodDescriptor (ab_my M').desc).map (fun d => d.parameters.length) = some na) ∧
      (sort = 0 → Cond.instanceMethod (ab_my M') ∈ hb_TB ∧ Cond.selects (ab_my M').cls (ab_my M') (ab_my M') ∈ hb_TB ∧ ∃ q : vw_C, (ab_gK (hb_Gx O X))[ci]? = some q ∧ q.1 = (ab_my M').cls) ∧
      (sort = 1 → Cond.static (ab_my M') ∈ hb_TB) ∧
      (sort = 6 → Cond.instanceMethod (ab_my M') ∈ hb_TB ∧ Cond.selects (ab_my M').cls (ab_my M') (ab_my M') ∈ hb_TB ∧ (ab_my M').cls = "java/lang/String") ∧
      (sort = 2 ∨ sort = 3 → (ab_my M').name = "<init>" ∧ Cond.instanceMethod (ab_my M') ∈ hb_TB ∧ ab_mr M' = none)) := by
  intro ix sort y na ci h M _ hcl
  rw [hcl]
  unfold hb_T13 at h
  split at h
  · cases h
    exact ⟨fun _ => ⟨(hb_w 2057 (by decide +kernel)), (hb_w 247 (by decide +kernel)), (hb_w 248 (by decide +kernel))⟩, fun h => absurd h (by decide), fun h => absurd h (by decide)⟩
  · cases h
    refine ⟨fun h => absurd h (by decide), fun h => absurd h (by decide), fun _ M' hM' => ?_⟩
    obtain rfl : mX19_init = M' := Option.some.inj ((show ab_gM (hb_Gx O X) 4864 = some mX19_init from rfl).symm.trans hM')
    exact ⟨fun h => absurd rfl h, (hb_w 221 (by decide +kernel)), by decide +kernel, fun h => absurd h (by decide), fun h => absurd h (by decide), fun h => absurd h (by decide), fun _ => ⟨rfl, (hb_w 2019 (by decide +kernel)), rfl⟩⟩
  · cases h
theorem hb_T14_ok (O : Nat → Option String) (X : ab_X) : ∀ (ix sort y na ci : Nat), hb_T14 ix = some (sort, y, na, ci) → ∀ M : ab_MI, ab_mo M = 14 → (ab_my M).cls = RX14 →
    (sort = 4 → Cond.methodLink (ab_my M).cls ix objectInit ∈ hb_TB ∧ Cond.instanceMethod objectInit ∈ hb_TB ∧ Cond.code objectInit ⟨#[0xb1]⟩ 1 none ∈ hb_TB) ∧
    (sort = 5 → Cond.methodLink (ab_my M).cls ix arraycopyName ∈ hb_TB ∧ Cond.native arraycopyName ∈ hb_TB ∧ Cond.static arraycopyName ∈ hb_TB ∧ Cond.initialized "java/lang/System" ∈ hb_TB) ∧
    (sort < 4 ∨ sort = 6 → ∀ M' : ab_MI, ab_gM (hb_Gx O X) y = some M' → (sort ≠ 3 → Cond.methodLink (ab_my M).cls ix (ab_my M') ∈ hb_TB) ∧ Cond.initialized (ab_my M').cls ∈ hb_TB ∧ ((ab_my M').cls ≠ "java/lang/invoke/MethodHandle" ∧ (ab_my M').cls ≠ "java/lang/invoke/VarHandle" ∧ (parseMethodDescriptor (ab_my M').desc).map (fun d => d.parameters.length) = some na) ∧
      (sort = 0 → Cond.instanceMethod (ab_my M') ∈ hb_TB ∧ Cond.selects (ab_my M').cls (ab_my M') (ab_my M') ∈ hb_TB ∧ ∃ q : vw_C, (ab_gK (hb_Gx O X))[ci]? = some q ∧ q.1 = (ab_my M').cls) ∧
      (sort = 1 → Cond.static (ab_my M') ∈ hb_TB) ∧
      (sort = 6 → Cond.instanceMethod (ab_my M') ∈ hb_TB ∧ Cond.selects (ab_my M').cls (ab_my M') (ab_my M') ∈ hb_TB ∧ (ab_my M').cls = "java/lang/String") ∧
      (sort = 2 ∨ sort = 3 → (ab_my M').name = "<init>" ∧ Cond.instanceMethod (ab_my M') ∈ hb_TB ∧ ab_mr M' = none)) := by
  intro ix sort y na ci h M _ hcl
  rw [hcl]
  unfold hb_T14 at h
  split at h
  · cases h
    exact ⟨fun _ => ⟨(hb_w 2170 (by decide +kernel)), (hb_w 247 (by decide +kernel)), (hb_w 248 (by decide +kernel))⟩, fun h => absurd h (by decide), fun h => absurd h (by decide)⟩
  · cases h
theorem hb_T15_ok (O : Nat → Option String) (X : ab_X) : ∀ (ix sort y na ci : Nat), hb_T15 ix = some (sort, y, na, ci) → ∀ M : ab_MI, ab_mo M = 15 → (ab_my M).cls = RX15 →
    (sort = 4 → Cond.methodLink (ab_my M).cls ix objectInit ∈ hb_TB ∧ Cond.instanceMethod objectInit ∈ hb_TB ∧ Cond.code objectInit ⟨#[0xb1]⟩ 1 none ∈ hb_TB) ∧
    (sort = 5 → Cond.methodLink (ab_my M).cls ix arraycopyName ∈ hb_TB ∧ Cond.native arraycopyName ∈ hb_TB ∧ Cond.static arraycopyName ∈ hb_TB ∧ Cond.initialized "java/lang/System" ∈ hb_TB) ∧
    (sort < 4 ∨ sort = 6 → ∀ M' : ab_MI, ab_gM (hb_Gx O X) y = some M' → (sort ≠ 3 → Cond.methodLink (ab_my M).cls ix (ab_my M') ∈ hb_TB) ∧ Cond.initialized (ab_my M').cls ∈ hb_TB ∧ ((ab_my M').cls ≠ "java/lang/invoke/MethodHandle" ∧ (ab_my M').cls ≠ "java/lang/invoke/VarHandle" ∧ (parseMethodDescriptor (ab_my M').desc).map (fun d => d.parameters.length) = some na) ∧
      (sort = 0 → Cond.instanceMethod (ab_my M') ∈ hb_TB ∧ Cond.selects (ab_my M').cls (ab_my M') (ab_my M') ∈ hb_TB ∧ ∃ q : vw_C, (ab_gK (hb_Gx O X))[ci]? = some q ∧ q.1 = (ab_my M').cls) ∧
      (sort = 1 → Cond.static (ab_my M') ∈ hb_TB) ∧
      (sort = 6 → Cond.instanceMethod (ab_my M') ∈ hb_TB ∧ Cond.selects (ab_my M').cls (ab_my M') (ab_my M') ∈ hb_TB ∧ (ab_my M').cls = "java/lang/String") ∧
      (sort = 2 ∨ sort = 3 → (ab_my M').name = "<init>" ∧ Cond.instanceMethod (ab_my M') ∈ hb_TB ∧ ab_mr M' = none)) := by
  intro ix sort y na ci h M _ hcl
  rw [hcl]
  unfold hb_T15 at h
  split at h
  · cases h
theorem hb_T16_ok (O : Nat → Option String) (X : ab_X) : ∀ (ix sort y na ci : Nat), hb_T16 ix = some (sort, y, na, ci) → ∀ M : ab_MI, ab_mo M = 16 → (ab_my M).cls = RX16 →
    (sort = 4 → Cond.methodLink (ab_my M).cls ix objectInit ∈ hb_TB ∧ Cond.instanceMethod objectInit ∈ hb_TB ∧ Cond.code objectInit ⟨#[0xb1]⟩ 1 none ∈ hb_TB) ∧
    (sort = 5 → Cond.methodLink (ab_my M).cls ix arraycopyName ∈ hb_TB ∧ Cond.native arraycopyName ∈ hb_TB ∧ Cond.static arraycopyName ∈ hb_TB ∧ Cond.initialized "java/lang/System" ∈ hb_TB) ∧
    (sort < 4 ∨ sort = 6 → ∀ M' : ab_MI, ab_gM (hb_Gx O X) y = some M' → (sort ≠ 3 → Cond.methodLink (ab_my M).cls ix (ab_my M') ∈ hb_TB) ∧ Cond.initialized (ab_my M').cls ∈ hb_TB ∧ ((ab_my M').cls ≠ "java/lang/invoke/MethodHandle" ∧ (ab_my M').cls ≠ "java/lang/invoke/VarHandle" ∧ (parseMethodDescriptor (ab_my M').desc).map (fun d => d.parameters.length) = some na) ∧
      (sort = 0 → Cond.instanceMethod (ab_my M') ∈ hb_TB ∧ Cond.selects (ab_my M').cls (ab_my M') (ab_my M') ∈ hb_TB ∧ ∃ q : vw_C, (ab_gK (hb_Gx O X))[ci]? = some q ∧ q.1 = (ab_my M').cls) ∧
      (sort = 1 → Cond.static (ab_my M') ∈ hb_TB) ∧
      (sort = 6 → Cond.instanceMethod (ab_my M') ∈ hb_TB ∧ Cond.selects (ab_my M').cls (ab_my M') (ab_my M') ∈ hb_TB ∧ (ab_my M').cls = "java/lang/String") ∧
      (sort = 2 ∨ sort = 3 → (ab_my M').name = "<init>" ∧ Cond.instanceMethod (ab_my M') ∈ hb_TB ∧ ab_mr M' = none)) := by
  intro ix sort y na ci h M _ hcl
  rw [hcl]
  unfold hb_T16 at h
  split at h
  · cases h
theorem hb_T17_ok (O : Nat → Option String) (X : ab_X) : ∀ (ix sort y na ci : Nat), hb_T17 ix = some (sort, y, na, ci) → ∀ M : ab_MI, ab_mo M = 17 → (ab_my M).cls = RX17 →
    (sort = 4 → Cond.methodLink (ab_my M).cls ix objectInit ∈ hb_TB ∧ Cond.instanceMethod objectInit ∈ hb_TB ∧ Cond.code objectInit ⟨#[0xb1]⟩ 1 none ∈ hb_TB) ∧
    (sort = 5 → Cond.methodLink (ab_my M).cls ix arraycopyName ∈ hb_TB ∧ Cond.native arraycopyName ∈ hb_TB ∧ Cond.static arraycopyName ∈ hb_TB ∧ Cond.initialized "java/lang/System" ∈ hb_TB) ∧
    (sort < 4 ∨ sort = 6 → ∀ M' : ab_MI, ab_gM (hb_Gx O X) y = some M' → (sort ≠ 3 → Cond.methodLink (ab_my M).cls ix (ab_my M') ∈ hb_TB) ∧ Cond.initialized (ab_my M').cls ∈ hb_TB ∧ ((ab_my M').cls ≠ "java/lang/invoke/MethodHandle" ∧ (ab_my M').cls ≠ "java/lang/invoke/VarHandle" ∧ (parseMethodDescriptor (ab_my M').desc).map (fun d => d.parameters.length) = some na) ∧
      (sort = 0 → Cond.instanceMethod (ab_my M') ∈ hb_TB ∧ Cond.selects (ab_my M').cls (ab_my M') (ab_my M') ∈ hb_TB ∧ ∃ q : vw_C, (ab_gK (hb_Gx O X))[ci]? = some q ∧ q.1 = (ab_my M').cls) ∧
      (sort = 1 → Cond.static (ab_my M') ∈ hb_TB) ∧
      (sort = 6 → Cond.instanceMethod (ab_my M') ∈ hb_TB ∧ Cond.selects (ab_my M').cls (ab_my M') (ab_my M') ∈ hb_TB ∧ (ab_my M').cls = "java/lang/String") ∧
      (sort = 2 ∨ sort = 3 → (ab_my M').name = "<init>" ∧ Cond.instanceMethod (ab_my M') ∈ hb_TB ∧ ab_mr M' = none)) := by
  intro ix sort y na ci h M _ hcl
  rw [hcl]
  unfold hb_T17 at h
  split at h
  · cases h
    exact ⟨fun _ => ⟨(hb_w 2015 (by decide +kernel)), (hb_w 247 (by decide +kernel)), (hb_w 248 (by decide +kernel))⟩, fun h => absurd h (by decide), fun h => absurd h (by decide)⟩
  · cases h
    refine ⟨fun h => absurd h (by decide), fun h => absurd h (by decide), fun _ M' hM' => ?_⟩
    obtain rfl : mX19_init = M' := Option.some.inj ((show ab_gM (hb_Gx O X) 4864 = some mX19_init from rfl).symm.trans hM')
    exact ⟨fun h => absurd rfl h, (hb_w 221 (by decide +kernel)), by decide +kernel, fun h => absurd h (by decide), fun h => absurd h (by decide), fun h => absurd h (by decide), fun _ => ⟨rfl, (hb_w 2019 (by decide +kernel)), rfl⟩⟩
  · cases h
theorem hb_T18_ok (O : Nat → Option String) (X : ab_X) : ∀ (ix sort y na ci : Nat), hb_T18 ix = some (sort, y, na, ci) → ∀ M : ab_MI, ab_mo M = 18 → (ab_my M).cls = RX18 →
    (sort = 4 → Cond.methodLink (ab_my M).cls ix objectInit ∈ hb_TB ∧ Cond.instanceMethod objectInit ∈ hb_TB ∧ Cond.code objectInit ⟨#[0xb1]⟩ 1 none ∈ hb_TB) ∧
    (sort = 5 → Cond.methodLink (ab_my M).cls ix arraycopyName ∈ hb_TB ∧ Cond.native arraycopyName ∈ hb_TB ∧ Cond.static arraycopyName ∈ hb_TB ∧ Cond.initialized "java/lang/System" ∈ hb_TB) ∧
    (sort < 4 ∨ sort = 6 → ∀ M' : ab_MI, ab_gM (hb_Gx O X) y = some M' → (sort ≠ 3 → Cond.methodLink (ab_my M).cls ix (ab_my M') ∈ hb_TB) ∧ Cond.initialized (ab_my M').cls ∈ hb_TB ∧ ((ab_my M').cls ≠ "java/lang/invoke/MethodHandle" ∧ (ab_my M').cls ≠ "java/lang/invoke/VarHandle" ∧ (parseMethodDescriptor (ab_my M').desc).map (fun d => d.parameters.length) = some na) ∧
      (sort = 0 → Cond.instanceMethod (ab_my M') ∈ hb_TB ∧ Cond.selects (ab_my M').cls (ab_my M') (ab_my M') ∈ hb_TB ∧ ∃ q : vw_C, (ab_gK (hb_Gx O X))[ci]? = some q ∧ q.1 = (ab_my M').cls) ∧
      (sort = 1 → Cond.static (ab_my M') ∈ hb_TB) ∧
      (sort = 6 → Cond.instanceMethod (ab_my M') ∈ hb_TB ∧ Cond.selects (ab_my M').cls (ab_my M') (ab_my M') ∈ hb_TB ∧ (ab_my M').cls = "java/lang/String") ∧
      (sort = 2 ∨ sort = 3 → (ab_my M').name = "<init>" ∧ Cond.instanceMethod (ab_my M') ∈ hb_TB ∧ ab_mr M' = none)) := by
  intro ix sort y na ci h M _ hcl
  rw [hcl]
  unfold hb_T18 at h
  split at h
  · cases h
    exact ⟨fun _ => ⟨(hb_w 2078 (by decide +kernel)), (hb_w 247 (by decide +kernel)), (hb_w 248 (by decide +kernel))⟩, fun h => absurd h (by decide), fun h => absurd h (by decide)⟩
  · cases h
theorem hb_T19_ok (O : Nat → Option String) (X : ab_X) : ∀ (ix sort y na ci : Nat), hb_T19 ix = some (sort, y, na, ci) → ∀ M : ab_MI, ab_mo M = 19 → (ab_my M).cls = RX19 →
    (sort = 4 → Cond.methodLink (ab_my M).cls ix objectInit ∈ hb_TB ∧ Cond.instanceMethod objectInit ∈ hb_TB ∧ Cond.code objectInit ⟨#[0xb1]⟩ 1 none ∈ hb_TB) ∧
    (sort = 5 → Cond.methodLink (ab_my M).cls ix arraycopyName ∈ hb_TB ∧ Cond.native arraycopyName ∈ hb_TB ∧ Cond.static arraycopyName ∈ hb_TB ∧ Cond.initialized "java/lang/System" ∈ hb_TB) ∧
    (sort < 4 ∨ sort = 6 → ∀ M' : ab_MI, ab_gM (hb_Gx O X) y = some M' → (sort ≠ 3 → Cond.methodLink (ab_my M).cls ix (ab_my M') ∈ hb_TB) ∧ Cond.initialized (ab_my M').cls ∈ hb_TB ∧ ((ab_my M').cls ≠ "java/lang/invoke/MethodHandle" ∧ (ab_my M').cls ≠ "java/lang/invoke/VarHandle" ∧ (parseMethodDescriptor (ab_my M').desc).map (fun d => d.parameters.length) = some na) ∧
      (sort = 0 → Cond.instanceMethod (ab_my M') ∈ hb_TB ∧ Cond.selects (ab_my M').cls (ab_my M') (ab_my M') ∈ hb_TB ∧ ∃ q : vw_C, (ab_gK (hb_Gx O X))[ci]? = some q ∧ q.1 = (ab_my M').cls) ∧
      (sort = 1 → Cond.static (ab_my M') ∈ hb_TB) ∧
      (sort = 6 → Cond.instanceMethod (ab_my M') ∈ hb_TB ∧ Cond.selects (ab_my M').cls (ab_my M') (ab_my M') ∈ hb_TB ∧ (ab_my M').cls = "java/lang/String") ∧
      (sort = 2 ∨ sort = 3 → (ab_my M').name = "<init>" ∧ Cond.instanceMethod (ab_my M') ∈ hb_TB ∧ ab_mr M' = none)) := by
  intro ix sort y na ci h M _ hcl
  rw [hcl]
  unfold hb_T19 at h
  split at h
  · cases h
    exact ⟨fun _ => ⟨(hb_w 2021 (by decide +kernel)), (hb_w 247 (by decide +kernel)), (hb_w 248 (by decide +kernel))⟩, fun h => absurd h (by decide), fun h => absurd h (by decide)⟩
  · cases h
    refine ⟨fun h => absurd h (by decide), fun h => absurd h (by decide), fun _ M' hM' => ?_⟩
    obtain rfl : mJ0_length_8abf5 = M' := Option.some.inj ((show ab_gM (hb_Gx O X) 9472 = some mJ0_length_8abf5 from rfl).symm.trans hM')
    exact ⟨fun _ => (hb_w 2201 (by decide +kernel)), (hb_w 202 (by decide +kernel)), by decide +kernel, fun h => absurd h (by decide), fun h => absurd h (by decide), fun _ => ⟨(hb_w 417 (by decide +kernel)), (hb_w 418 (by decide +kernel)), rfl⟩, fun h => absurd h (by decide)⟩
  · cases h
    refine ⟨fun h => absurd h (by decide), fun h => absurd h (by decide), fun _ M' hM' => ?_⟩
    obtain rfl : mJ0_charAt_5068e = M' := Option.some.inj ((show ab_gM (hb_Gx O X) 9473 = some mJ0_charAt_5068e from rfl).symm.trans hM')
    exact ⟨fun _ => (hb_w 2202 (by decide +kernel)), (hb_w 202 (by decide +kernel)), by decide +kernel, fun h => absurd h (by decide), fun h => absurd h (by decide), fun _ => ⟨(hb_w 427 (by decide +kernel)), (hb_w 428 (by decide +kernel)), rfl⟩, fun h => absurd h (by decide)⟩
  · cases h
theorem hb_T20_ok (O : Nat → Option String) (X : ab_X) : ∀ (ix sort y na ci : Nat), hb_T20 ix = some (sort, y, na, ci) → ∀ M : ab_MI, ab_mo M = 20 → (ab_my M).cls = RX20 →
    (sort = 4 → Cond.methodLink (ab_my M).cls ix objectInit ∈ hb_TB ∧ Cond.instanceMethod objectInit ∈ hb_TB ∧ Cond.code objectInit ⟨#[0xb1]⟩ 1 none ∈ hb_TB) ∧
    (sort = 5 → Cond.methodLink (ab_my M).cls ix arraycopyName ∈ hb_TB ∧ Cond.native arraycopyName ∈ hb_TB ∧ Cond.static arraycopyName ∈ hb_TB ∧ Cond.initialized "java/lang/System" ∈ hb_TB) ∧
    (sort < 4 ∨ sort = 6 → ∀ M' : ab_MI, ab_gM (hb_Gx O X) y = some M' → (sort ≠ 3 → Cond.methodLink (ab_my M).cls ix (ab_my M') ∈ hb_TB) ∧ Cond.initialized (ab_my M').cls ∈ hb_TB ∧ ((ab_my M').cls ≠ "java/lang/invoke/MethodHandle" ∧ (ab_my M').cls ≠ "java/lang/invoke/VarHandle" ∧ (parseMethodDescriptor (ab_my M').desc).map (fun d => d.parameters.length) = some na) ∧
      (sort = 0 → Cond.instanceMethod (ab_my M') ∈ hb_TB ∧ Cond.selects (ab_my M').cls (ab_my M') (ab_my M') ∈ hb_TB ∧ ∃ q : vw_C, (ab_gK (hb_Gx O X))[ci]? = some q ∧ q.1 = (ab_my M').cls) ∧
      (sort = 1 → Cond.static (ab_my M') ∈ hb_TB) ∧
      (sort = 6 → Cond.instanceMethod (ab_my M') ∈ hb_TB ∧ Cond.selects (ab_my M').cls (ab_my M') (ab_my M') ∈ hb_TB ∧ (ab_my M').cls = "java/lang/String") ∧
      (sort = 2 ∨ sort = 3 → (ab_my M').name = "<init>" ∧ Cond.instanceMethod (ab_my M') ∈ hb_TB ∧ ab_mr M' = none)) := by
  intro ix sort y na ci h M _ hcl
  rw [hcl]
  unfold hb_T20 at h
  split at h
  · cases h
    exact ⟨fun _ => ⟨(hb_w 2811 (by decide +kernel)), (hb_w 247 (by decide +kernel)), (hb_w 248 (by decide +kernel))⟩, fun h => absurd h (by decide), fun h => absurd h (by decide)⟩
  · cases h
theorem hb_T21_ok (O : Nat → Option String) (X : ab_X) : ∀ (ix sort y na ci : Nat), hb_T21 ix = some (sort, y, na, ci) → ∀ M : ab_MI, ab_mo M = 21 → (ab_my M).cls = RX21 →
    (sort = 4 → Cond.methodLink (ab_my M).cls ix objectInit ∈ hb_TB ∧ Cond.instanceMethod objectInit ∈ hb_TB ∧ Cond.code objectInit ⟨#[0xb1]⟩ 1 none ∈ hb_TB) ∧
    (sort = 5 → Cond.methodLink (ab_my M).cls ix arraycopyName ∈ hb_TB ∧ Cond.native arraycopyName ∈ hb_TB ∧ Cond.static arraycopyName ∈ hb_TB ∧ Cond.initialized "java/lang/System" ∈ hb_TB) ∧
    (sort < 4 ∨ sort = 6 → ∀ M' : ab_MI, ab_gM (hb_Gx O X) y = some M' → (sort ≠ 3 → Cond.methodLink (ab_my M).cls ix (ab_my M') ∈ hb_TB) ∧ Cond.initialized (ab_my M').cls ∈ hb_TB ∧ ((ab_my M').cls ≠ "java/lang/invoke/MethodHandle" ∧ (ab_my M').cls ≠ "java/lang/invoke/VarHandle" ∧ (parseMethodDescriptor (ab_my M').desc).map (fun d => d.parameters.length) = some na) ∧
      (sort = 0 → Cond.instanceMethod (ab_my M') ∈ hb_TB ∧ Cond.selects (ab_my M').cls (ab_my M') (ab_my M') ∈ hb_TB ∧ ∃ q : vw_C, (ab_gK (hb_Gx O X))[ci]? = some q ∧ q.1 = (ab_my M').cls) ∧
      (sort = 1 → Cond.static (ab_my M') ∈ hb_TB) ∧
      (sort = 6 → Cond.instanceMethod (ab_my M') ∈ hb_TB ∧ Cond.selects (ab_my M').cls (ab_my M') (ab_my M') ∈ hb_TB ∧ (ab_my M').cls = "java/lang/String") ∧
      (sort = 2 ∨ sort = 3 → (ab_my M').name = "<init>" ∧ Cond.instanceMethod (ab_my M') ∈ hb_TB ∧ ab_mr M' = none)) := by
  intro ix sort y na ci h M _ hcl
  rw [hcl]
  unfold hb_T21 at h
  split at h
  · cases h
    exact ⟨fun _ => ⟨(hb_w 1973 (by decide +kernel)), (hb_w 247 (by decide +kernel)), (hb_w 248 (by decide +kernel))⟩, fun h => absurd h (by decide), fun h => absurd h (by decide)⟩
  · cases h
    refine ⟨fun h => absurd h (by decide), fun h => absurd h (by decide), fun _ M' hM' => ?_⟩
    obtain rfl : mJx4a65c_init_da8c8 = M' := Option.some.inj ((show ab_gM (hb_Gx O X) 11008 = some mJx4a65c_init_da8c8 from rfl).symm.trans hM')
    exact ⟨fun _ => (hb_w 1976 (by decide +kernel)), (hb_w 219 (by decide +kernel)), by decide +kernel, fun h => absurd h (by decide), fun h => absurd h (by decide), fun h => absurd h (by decide), fun _ => ⟨rfl, (hb_w 1977 (by decide +kernel)), rfl⟩⟩
  · cases h
    refine ⟨fun h => absurd h (by decide), fun h => absurd h (by decide), fun _ M' hM' => ?_⟩
    obtain rfl : mJx4a65c_size_8abf5 = M' := Option.some.inj ((show ab_gM (hb_Gx O X) 11011 = some mJx4a65c_size_8abf5 from rfl).symm.trans hM')
    exact ⟨fun _ => (hb_w 2802 (by decide +kernel)), (hb_w 219 (by decide +kernel)), by decide +kernel, fun _ => ⟨(hb_w 2803 (by decide +kernel)), (hb_w 2804 (by decide +kernel)), _, rfl, rfl⟩, fun h => absurd h (by decide), fun h => absurd h (by decide), fun h => absurd h (by decide)⟩
  · cases h
    refine ⟨fun h => absurd h (by decide), fun h => absurd h (by decide), fun _ M' hM' => ?_⟩
    obtain rfl : mX20_init = M' := Option.some.inj ((show ab_gM (hb_Gx O X) 5120 = some mX20_init from rfl).symm.trans hM')
    exact ⟨fun h => absurd rfl h, (hb_w 236 (by decide +kernel)), by decide +kernel, fun h => absurd h (by decide), fun h => absurd h (by decide), fun h => absurd h (by decide), fun _ => ⟨rfl, (hb_w 2809 (by decide +kernel)), rfl⟩⟩
  · cases h
    refine ⟨fun h => absurd h (by decide), fun h => absurd h (by decide), fun _ M' hM' => ?_⟩
    obtain rfl : mJx4a65c_add_9ea2d = M' := Option.some.inj ((show ab_gM (hb_Gx O X) 11015 = some mJx4a65c_add_9ea2d from rfl).symm.trans hM')
    exact ⟨fun _ => (hb_w 2861 (by decide +kernel)), (hb_w 219 (by decide +kernel)), by decide +kernel, fun _ => ⟨(hb_w 2862 (by decide +kernel)), (hb_w 2863 (by decide +kernel)), _, rfl, rfl⟩, fun h => absurd h (by decide), fun h => absurd h (by decide), fun h => absurd h (by decide)⟩
  · cases h
    refine ⟨fun h => absurd h (by decide), fun h => absurd h (by decide), fun _ M' hM' => ?_⟩
    obtain rfl : mJx4a65c_get_915e3 = M' := Option.some.inj ((show ab_gM (hb_Gx O X) 11013 = some mJx4a65c_get_915e3 from rfl).symm.trans hM')
    exact ⟨fun _ => (hb_w 2928 (by decide +kernel)), (hb_w 219 (by decide +kernel)), by decide +kernel, fun _ => ⟨(hb_w 2929 (by decide +kernel)), (hb_w 2930 (by decide +kernel)), _, rfl, rfl⟩, fun h => absurd h (by decide), fun h => absurd h (by decide), fun h => absurd h (by decide)⟩
  · cases h
    refine ⟨fun h => absurd h (by decide), fun h => absurd h (by decide), fun _ M' hM' => ?_⟩
    obtain rfl : mX20_be = M' := Option.some.inj ((show ab_gM (hb_Gx O X) 5121 = some mX20_be from rfl).symm.trans hM')
    exact ⟨fun _ => (hb_w 2940 (by decide +kernel)), (hb_w 236 (by decide +kernel)), by decide +kernel, fun _ => ⟨(hb_w 2941 (by decide +kernel)), (hb_w 2942 (by decide +kernel)), _, rfl, rfl⟩, fun h => absurd h (by decide), fun h => absurd h (by decide), fun h => absurd h (by decide)⟩
  · cases h
theorem hb_T22_ok (O : Nat → Option String) (X : ab_X) : ∀ (ix sort y na ci : Nat), hb_T22 ix = some (sort, y, na, ci) → ∀ M : ab_MI, ab_mo M = 22 → (ab_my M).cls = RX22 →
    (sort = 4 → Cond.methodLink (ab_my M).cls ix objectInit ∈ hb_TB ∧ Cond.instanceMethod objectInit ∈ hb_TB ∧ Cond.code objectInit ⟨#[0xb1]⟩ 1 none ∈ hb_TB) ∧
    (sort = 5 → Cond.methodLink (ab_my M).cls ix arraycopyName ∈ hb_TB ∧ Cond.native arraycopyName ∈ hb_TB ∧ Cond.static arraycopyName ∈ hb_TB ∧ Cond.initialized "java/lang/System" ∈ hb_TB) ∧
    (sort < 4 ∨ sort = 6 → ∀ M' : ab_MI, ab_gM (hb_Gx O X) y = some M' → (sort ≠ 3 → Cond.methodLink (ab_my M).cls ix (ab_my M') ∈ hb_TB) ∧ Cond.initialized (ab_my M').cls ∈ hb_TB ∧ ((ab_my M').cls ≠ "java/lang/invoke/MethodHandle" ∧ (ab_my M').cls ≠ "java/lang/invoke/VarHandle" ∧ (parseMethodDescriptor (ab_my M').desc).map (fun d => d.parameters.length) = some na) ∧
      (sort = 0 → Cond.instanceMethod (ab_my M') ∈ hb_TB ∧ Cond.selects (ab_my M').cls (ab_my M') (ab_my M') ∈ hb_TB ∧ ∃ q : vw_C, (ab_gK (hb_Gx O X))[ci]? = some q ∧ q.1 = (ab_my M').cls) ∧
      (sort = 1 → Cond.static (ab_my M') ∈ hb_TB) ∧
      (sort = 6 → Cond.instanceMethod (ab_my M') ∈ hb_TB ∧ Cond.selects (ab_my M').cls (ab_my M') (ab_my M') ∈ hb_TB ∧ (ab_my M').cls = "java/lang/String") ∧
      (sort = 2 ∨ sort = 3 → (ab_my M').name = "<init>" ∧ Cond.instanceMethod (ab_my M') ∈ hb_TB ∧ ab_mr M' = none)) := by
  intro ix sort y na ci h M _ hcl
  rw [hcl]
  unfold hb_T22 at h
  split at h
  · cases h
theorem hb_T23_ok (O : Nat → Option String) (X : ab_X) : ∀ (ix sort y na ci : Nat), hb_T23 ix = some (sort, y, na, ci) → ∀ M : ab_MI, ab_mo M = 23 → (ab_my M).cls = RX23 →
    (sort = 4 → Cond.methodLink (ab_my M).cls ix objectInit ∈ hb_TB ∧ Cond.instanceMethod objectInit ∈ hb_TB ∧ Cond.code objectInit ⟨#[0xb1]⟩ 1 none ∈ hb_TB) ∧
    (sort = 5 → Cond.methodLink (ab_my M).cls ix arraycopyName ∈ hb_TB ∧ Cond.native arraycopyName ∈ hb_TB ∧ Cond.static arraycopyName ∈ hb_TB ∧ Cond.initialized "java/lang/System" ∈ hb_TB) ∧
    (sort < 4 ∨ sort = 6 → ∀ M' : ab_MI, ab_gM (hb_Gx O X) y = some M' → (sort ≠ 3 → Cond.methodLink (ab_my M).cls ix (ab_my M') ∈ hb_TB) ∧ Cond.initialized (ab_my M').cls ∈ hb_TB ∧ ((ab_my M').cls ≠ "java/lang/invoke/MethodHandle" ∧ (ab_my M').cls ≠ "java/lang/invoke/VarHandle" ∧ (parseMethodDescriptor (ab_my M').desc).map (fun d => d.parameters.length) = some na) ∧
      (sort = 0 → Cond.instanceMethod (ab_my M') ∈ hb_TB ∧ Cond.selects (ab_my M').cls (ab_my M') (ab_my M') ∈ hb_TB ∧ ∃ q : vw_C, (ab_gK (hb_Gx O X))[ci]? = some q ∧ q.1 = (ab_my M').cls) ∧
      (sort = 1 → Cond.static (ab_my M') ∈ hb_TB) ∧
      (sort = 6 → Cond.instanceMethod (ab_my M') ∈ hb_TB ∧ Cond.selects (ab_my M').cls (ab_my M') (ab_my M') ∈ hb_TB ∧ (ab_my M').cls = "java/lang/String") ∧
      (sort = 2 ∨ sort = 3 → (ab_my M').name = "<init>" ∧ Cond.instanceMethod (ab_my M') ∈ hb_TB ∧ ab_mr M' = none)) := by
  intro ix sort y na ci h M _ hcl
  rw [hcl]
  unfold hb_T23 at h
  split at h
  · cases h
    refine ⟨fun h => absurd h (by decide), fun h => absurd h (by decide), fun _ M' hM' => ?_⟩
    obtain rfl : mX19_is = M' := Option.some.inj ((show ab_gM (hb_Gx O X) 4867 = some mX19_is from rfl).symm.trans hM')
    exact ⟨fun _ => (hb_w 2730 (by decide +kernel)), (hb_w 221 (by decide +kernel)), by decide +kernel, fun _ => ⟨(hb_w 2731 (by decide +kernel)), (hb_w 2732 (by decide +kernel)), _, rfl, rfl⟩, fun h => absurd h (by decide), fun h => absurd h (by decide), fun h => absurd h (by decide)⟩
  · cases h
    refine ⟨fun h => absurd h (by decide), fun h => absurd h (by decide), fun _ M' hM' => ?_⟩
    obtain rfl : mX23_isName = M' := Option.some.inj ((show ab_gM (hb_Gx O X) 5888 = some mX23_isName from rfl).symm.trans hM')
    exact ⟨fun _ => (hb_w 2726 (by decide +kernel)), (hb_w 215 (by decide +kernel)), by decide +kernel, fun _ => ⟨(hb_w 2728 (by decide +kernel)), (hb_w 119 (by decide +kernel)), _, rfl, rfl⟩, fun h => absurd h (by decide), fun h => absurd h (by decide), fun h => absurd h (by decide)⟩
  · cases h
    refine ⟨fun h => absurd h (by decide), fun h => absurd h (by decide), fun _ M' hM' => ?_⟩
    obtain rfl : mX23_kindNamed = M' := Option.some.inj ((show ab_gM (hb_Gx O X) 5890 = some mX23_kindNamed from rfl).symm.trans hM')
    exact ⟨fun _ => (hb_w 2722 (by decide +kernel)), (hb_w 215 (by decide +kernel)), by decide +kernel, fun _ => ⟨(hb_w 2724 (by decide +kernel)), (hb_w 118 (by decide +kernel)), _, rfl, rfl⟩, fun h => absurd h (by decide), fun h => absurd h (by decide), fun h => absurd h (by decide)⟩
  · cases h
    refine ⟨fun h => absurd h (by decide), fun h => absurd h (by decide), fun _ M' hM' => ?_⟩
    obtain rfl : mX23_callNamed = M' := Option.some.inj ((show ab_gM (hb_Gx O X) 5891 = some mX23_callNamed from rfl).symm.trans hM')
    exact ⟨fun _ => (hb_w 2734 (by decide +kernel)), (hb_w 215 (by decide +kernel)), by decide +kernel, fun _ => ⟨(hb_w 2736 (by decide +kernel)), (hb_w 120 (by decide +kernel)), _, rfl, rfl⟩, fun h => absurd h (by decide), fun h => absurd h (by decide), fun h => absurd h (by decide)⟩
  · cases h
    refine ⟨fun h => absurd h (by decide), fun h => absurd h (by decide), fun _ M' hM' => ?_⟩
    obtain rfl : mX23_layerNamed = M' := Option.some.inj ((show ab_gM (hb_Gx O X) 5892 = some mX23_layerNamed from rfl).symm.trans hM')
    exact ⟨fun _ => (hb_w 2738 (by decide +kernel)), (hb_w 215 (by decide +kernel)), by decide +kernel, fun _ => ⟨(hb_w 2740 (by decide +kernel)), (hb_w 121 (by decide +kernel)), _, rfl, rfl⟩, fun h => absurd h (by decide), fun h => absurd h (by decide), fun h => absurd h (by decide)⟩
  · cases h
    refine ⟨fun h => absurd h (by decide), fun h => absurd h (by decide), fun _ M' hM' => ?_⟩
    obtain rfl : mX17_place = M' := Option.some.inj ((show ab_gM (hb_Gx O X) 4353 = some mX17_place from rfl).symm.trans hM')
    exact ⟨fun _ => (hb_w 2225 (by decide +kernel)), (hb_w 220 (by decide +kernel)), by decide +kernel, fun _ => ⟨(hb_w 2226 (by decide +kernel)), (hb_w 2227 (by decide +kernel)), _, rfl, rfl⟩, fun h => absurd h (by decide), fun h => absurd h (by decide), fun h => absurd h (by decide)⟩
  · cases h
    refine ⟨fun h => absurd h (by decide), fun h => absurd h (by decide), fun _ M' hM' => ?_⟩
    obtain rfl : mX23_joined = M' := Option.some.inj ((show ab_gM (hb_Gx O X) 5897 = some mX23_joined from rfl).symm.trans hM')
    exact ⟨fun _ => (hb_w 2207 (by decide +kernel)), (hb_w 215 (by decide +kernel)), by decide +kernel, fun _ => ⟨(hb_w 2209 (by decide +kernel)), (hb_w 100 (by decide +kernel)), _, rfl, rfl⟩, fun h => absurd h (by decide), fun h => absurd h (by decide), fun h => absurd h (by decide)⟩
  · cases h
    refine ⟨fun h => absurd h (by decide), fun h => absurd h (by decide), fun _ M' hM' => ?_⟩
    obtain rfl : mX23_isFirst = M' := Option.some.inj ((show ab_gM (hb_Gx O X) 5896 = some mX23_isFirst from rfl).symm.trans hM')
    exact ⟨fun _ => (hb_w 2211 (by decide +kernel)), (hb_w 215 (by decide +kernel)), by decide +kernel, fun _ => ⟨(hb_w 2213 (by decide +kernel)), (hb_w 101 (by decide +kernel)), _, rfl, rfl⟩, fun h => absurd h (by decide), fun h => absurd h (by decide), fun h => absurd h (by decide)⟩
  · cases h
    refine ⟨fun h => absurd h (by decide), fun h => absurd h (by decide), fun _ M' hM' => ?_⟩
    obtain rfl : mJ0_length_8abf5 = M' := Option.some.inj ((show ab_gM (hb_Gx O X) 9472 = some mJ0_length_8abf5 from rfl).symm.trans hM')
    exact ⟨fun _ => (hb_w 2631 (by decide +kernel)), (hb_w 202 (by decide +kernel)), by decide +kernel, fun h => absurd h (by decide), fun h => absurd h (by decide), fun _ => ⟨(hb_w 417 (by decide +kernel)), (hb_w 418 (by decide +kernel)), rfl⟩, fun h => absurd h (by decide)⟩
  · cases h
    refine ⟨fun h => absurd h (by decide), fun h => absurd h (by decide), fun _ M' hM' => ?_⟩
    obtain rfl : mJ0_charAt_5068e = M' := Option.some.inj ((show ab_gM (hb_Gx O X) 9473 = some mJ0_charAt_5068e from rfl).symm.trans hM')
    exact ⟨fun _ => (hb_w 2632 (by decide +kernel)), (hb_w 202 (by decide +kernel)), by decide +kernel, fun h => absurd h (by decide), fun h => absurd h (by decide), fun _ => ⟨(hb_w 427 (by decide +kernel)), (hb_w 428 (by decide +kernel)), rfl⟩, fun h => absurd h (by decide)⟩
  · cases h
    refine ⟨fun h => absurd h (by decide), fun h => absurd h (by decide), fun _ M' hM' => ?_⟩
    obtain rfl : mX23_isHere = M' := Option.some.inj ((show ab_gM (hb_Gx O X) 5900 = some mX23_isHere from rfl).symm.trans hM')
    exact ⟨fun _ => (hb_w 2627 (by decide +kernel)), (hb_w 215 (by decide +kernel)), by decide +kernel, fun _ => ⟨(hb_w 2629 (by decide +kernel)), (hb_w 111 (by decide +kernel)), _, rfl, rfl⟩, fun h => absurd h (by decide), fun h => absurd h (by decide), fun h => absurd h (by decide)⟩
  · cases h
    refine ⟨fun h => absurd h (by decide), fun h => absurd h (by decide), fun _ M' hM' => ?_⟩
    obtain rfl : mX23_isLetter = M' := Option.some.inj ((show ab_gM (hb_Gx O X) 5898 = some mX23_isLetter from rfl).symm.trans hM')
    exact ⟨fun _ => (hb_w 2616 (by decide +kernel)), (hb_w 215 (by decide +kernel)), by decide +kernel, fun h => absurd h (by decide), fun _ => (hb_w 2617 (by decide +kernel)), fun h => absurd h (by decide), fun h => absurd h (by decide)⟩
  · cases h
    refine ⟨fun h => absurd h (by decide), fun h => absurd h (by decide), fun _ M' hM' => ?_⟩
    obtain rfl : mX23_isDigit = M' := Option.some.inj ((show ab_gM (hb_Gx O X) 5899 = some mX23_isDigit from rfl).symm.trans hM')
    exact ⟨fun _ => (hb_w 2619 (by decide +kernel)), (hb_w 215 (by decide +kernel)), by decide +kernel, fun h => absurd h (by decide), fun _ => (hb_w 2620 (by decide +kernel)), fun h => absurd h (by decide), fun h => absurd h (by decide)⟩
  · cases h
    refine ⟨fun h => absurd h (by decide), fun h => absurd h (by decide), fun _ M' hM' => ?_⟩
    obtain rfl : mX23_word = M' := Option.some.inj ((show ab_gM (hb_Gx O X) 5901 = some mX23_word from rfl).symm.trans hM')
    exact ⟨fun _ => (hb_w 2622 (by decide +kernel)), (hb_w 215 (by decide +kernel)), by decide +kernel, fun _ => ⟨(hb_w 2624 (by decide +kernel)), (hb_w 110 (by decide +kernel)), _, rfl, rfl⟩, fun h => absurd h (by decide), fun h => absurd h (by decide), fun h => absurd h (by decide)⟩
  · cases h
    refine ⟨fun h => absurd h (by decide), fun h => absurd h (by decide), fun _ M' hM' => ?_⟩
    obtain rfl : mJ9_min_f86c9 = M' := Option.some.inj ((show ab_gM (hb_Gx O X) 9218 = some mJ9_min_f86c9 from rfl).symm.trans hM')
    exact ⟨fun _ => (hb_w 2668 (by decide +kernel)), (hb_w 231 (by decide +kernel)), by decide +kernel, fun h => absurd h (by decide), fun _ => (hb_w 1072 (by decide +kernel)), fun h => absurd h (by decide), fun h => absurd h (by decide)⟩
  · cases h
    refine ⟨fun h => absurd h (by decide), fun h => absurd h (by decide), fun _ M' hM' => ?_⟩
    obtain rfl : mJ0_indexOf_0f7a4 = M' := Option.some.inj ((show ab_gM (hb_Gx O X) 9475 = some mJ0_indexOf_0f7a4 from rfl).symm.trans hM')
    exact ⟨fun _ => (hb_w 2671 (by decide +kernel)), (hb_w 202 (by decide +kernel)), by decide +kernel, fun h => absurd h (by decide), fun h => absurd h (by decide), fun _ => ⟨(hb_w 1096 (by decide +kernel)), (hb_w 1097 (by decide +kernel)), rfl⟩, fun h => absurd h (by decide)⟩
  · cases h
    refine ⟨fun h => absurd h (by decide), fun h => absurd h (by decide), fun _ M' hM' => ?_⟩
    obtain rfl : mX22_init = M' := Option.some.inj ((show ab_gM (hb_Gx O X) 5632 = some mX22_init from rfl).symm.trans hM')
    exact ⟨fun _ => (hb_w 2708 (by decide +kernel)), (hb_w 235 (by decide +kernel)), by decide +kernel, fun h => absurd h (by decide), fun h => absurd h (by decide), fun h => absurd h (by decide), fun _ => ⟨rfl, (hb_w 2709 (by decide +kernel)), rfl⟩⟩
  · cases h
    refine ⟨fun h => absurd h (by decide), fun h => absurd h (by decide), fun _ M' hM' => ?_⟩
    obtain rfl : mJ0_equals_9ea2d = M' := Option.some.inj ((show ab_gM (hb_Gx O X) 9474 = some mJ0_equals_9ea2d from rfl).symm.trans hM')
    exact ⟨fun _ => (hb_w 2680 (by decide +kernel)), (hb_w 202 (by decide +kernel)), by decide +kernel, fun h => absurd h (by decide), fun h => absurd h (by decide), fun _ => ⟨(hb_w 2681 (by decide +kernel)), (hb_w 2682 (by decide +kernel)), rfl⟩, fun h => absurd h (by decide)⟩
  · cases h
    refine ⟨fun h => absurd h (by decide), fun h => absurd h (by decide), fun _ M' hM' => ?_⟩
    obtain rfl : mX23_is = M' := Option.some.inj ((show ab_gM (hb_Gx O X) 5904 = some mX23_is from rfl).symm.trans hM')
    exact ⟨fun _ => (hb_w 2750 (by decide +kernel)), (hb_w 215 (by decide +kernel)), by decide +kernel, fun _ => ⟨(hb_w 2752 (by decide +kernel)), (hb_w 123 (by decide +kernel)), _, rfl, rfl⟩, fun h => absurd h (by decide), fun h => absurd h (by decide), fun h => absurd h (by decide)⟩
  · cases h
    refine ⟨fun h => absurd h (by decide), fun h => absurd h (by decide), fun _ M' hM' => ?_⟩
    obtain rfl : mX23_no = M' := Option.some.inj ((show ab_gM (hb_Gx O X) 5903 = some mX23_no from rfl).symm.trans hM')
    exact ⟨fun _ => (hb_w 2696 (by decide +kernel)), (hb_w 215 (by decide +kernel)), by decide +kernel, fun _ => ⟨(hb_w 2698 (by decide +kernel)), (hb_w 116 (by decide +kernel)), _, rfl, rfl⟩, fun h => absurd h (by decide), fun h => absurd h (by decide), fun h => absurd h (by decide)⟩
  · cases h
    refine ⟨fun h => absurd h (by decide), fun h => absurd h (by decide), fun _ M' hM' => ?_⟩
    obtain rfl : mX23_next = M' := Option.some.inj ((show ab_gM (hb_Gx O X) 5902 = some mX23_next from rfl).symm.trans hM')
    exact ⟨fun _ => (hb_w 2612 (by decide +kernel)), (hb_w 215 (by decide +kernel)), by decide +kernel, fun _ => ⟨(hb_w 2614 (by decide +kernel)), (hb_w 109 (by decide +kernel)), _, rfl, rfl⟩, fun h => absurd h (by decide), fun h => absurd h (by decide), fun h => absurd h (by decide)⟩
  · cases h
    refine ⟨fun h => absurd h (by decide), fun h => absurd h (by decide), fun _ M' hM' => ?_⟩
    obtain rfl : mX23_is_ = M' := Option.some.inj ((show ab_gM (hb_Gx O X) 5905 = some mX23_is_ from rfl).symm.trans hM')
    exact ⟨fun _ => (hb_w 2676 (by decide +kernel)), (hb_w 215 (by decide +kernel)), by decide +kernel, fun _ => ⟨(hb_w 2678 (by decide +kernel)), (hb_w 113 (by decide +kernel)), _, rfl, rfl⟩, fun h => absurd h (by decide), fun h => absurd h (by decide), fun h => absurd h (by decide)⟩
  · cases h
    refine ⟨fun h => absurd h (by decide), fun h => absurd h (by decide), fun _ M' hM' => ?_⟩
    obtain rfl : mX23_breaks = M' := Option.some.inj ((show ab_gM (hb_Gx O X) 5910 = some mX23_breaks from rfl).symm.trans hM')
    exact ⟨fun _ => (hb_w 2742 (by decide +kernel)), (hb_w 215 (by decide +kernel)), by decide +kernel, fun _ => ⟨(hb_w 2744 (by decide +kernel)), (hb_w 122 (by decide +kernel)), _, rfl, rfl⟩, fun h => absurd h (by decide), fun h => absurd h (by decide), fun h => absurd h (by decide)⟩
  · cases h
    refine ⟨fun h => absurd h (by decide), fun h => absurd h (by decide), fun _ M' hM' => ?_⟩
    obtain rfl : mX23_start = M' := Option.some.inj ((show ab_gM (hb_Gx O X) 5914 = some mX23_start from rfl).symm.trans hM')
    exact ⟨fun _ => (hb_w 2608 (by decide +kernel)), (hb_w 215 (by decide +kernel)), by decide +kernel, fun _ => ⟨(hb_w 2610 (by decide +kernel)), (hb_w 108 (by decide +kernel)), _, rfl, rfl⟩, fun h => absurd h (by decide), fun h => absurd h (by decide), fun h => absurd h (by decide)⟩
  · cases h
    refine ⟨fun h => absurd h (by decide), fun h => absurd h (by decide), fun _ M' hM' => ?_⟩
    obtain rfl : mX23_skip = M' := Option.some.inj ((show ab_gM (hb_Gx O X) 5908 = some mX23_skip from rfl).symm.trans hM')
    exact ⟨fun _ => (hb_w 2672 (by decide +kernel)), (hb_w 215 (by decide +kernel)), by decide +kernel, fun _ => ⟨(hb_w 2674 (by decide +kernel)), (hb_w 112 (by decide +kernel)), _, rfl, rfl⟩, fun h => absurd h (by decide), fun h => absurd h (by decide), fun h => absurd h (by decide)⟩
  · cases h
    refine ⟨fun h => absurd h (by decide), fun h => absurd h (by decide), fun _ M' hM' => ?_⟩
    obtain rfl : mX23_kind = M' := Option.some.inj ((show ab_gM (hb_Gx O X) 5915 = some mX23_kind from rfl).symm.trans hM')
    exact ⟨fun _ => (hb_w 2688 (by decide +kernel)), (hb_w 215 (by decide +kernel)), by decide +kernel, fun _ => ⟨(hb_w 2690 (by decide +kernel)), (hb_w 114 (by decide +kernel)), _, rfl, rfl⟩, fun h => absurd h (by decide), fun h => absurd h (by decide), fun h => absurd h (by decide)⟩
  · cases h
    refine ⟨fun h => absurd h (by decide), fun h => absurd h (by decide), fun _ M' hM' => ?_⟩
    obtain rfl : mX23_call = M' := Option.some.inj ((show ab_gM (hb_Gx O X) 5916 = some mX23_call from rfl).symm.trans hM')
    exact ⟨fun _ => (hb_w 2758 (by decide +kernel)), (hb_w 215 (by decide +kernel)), by decide +kernel, fun _ => ⟨(hb_w 2760 (by decide +kernel)), (hb_w 125 (by decide +kernel)), _, rfl, rfl⟩, fun h => absurd h (by decide), fun h => absurd h (by decide), fun h => absurd h (by decide)⟩
  · cases h
    refine ⟨fun h => absurd h (by decide), fun h => absurd h (by decide), fun _ M' hM' => ?_⟩
    obtain rfl : mX23_layer = M' := Option.some.inj ((show ab_gM (hb_Gx O X) 5917 = some mX23_layer from rfl).symm.trans hM')
    exact ⟨fun _ => (hb_w 2762 (by decide +kernel)), (hb_w 215 (by decide +kernel)), by decide +kernel, fun _ => ⟨(hb_w 2764 (by decide +kernel)), (hb_w 126 (by decide +kernel)), _, rfl, rfl⟩, fun h => absurd h (by decide), fun h => absurd h (by decide), fun h => absurd h (by decide)⟩
  · cases h
    refine ⟨fun h => absurd h (by decide), fun h => absurd h (by decide), fun _ M' hM' => ?_⟩
    obtain rfl : mX23_method = M' := Option.some.inj ((show ab_gM (hb_Gx O X) 5918 = some mX23_method from rfl).symm.trans hM')
    exact ⟨fun _ => (hb_w 2766 (by decide +kernel)), (hb_w 215 (by decide +kernel)), by decide +kernel, fun _ => ⟨(hb_w 2768 (by decide +kernel)), (hb_w 127 (by decide +kernel)), _, rfl, rfl⟩, fun h => absurd h (by decide), fun h => absurd h (by decide), fun h => absurd h (by decide)⟩
  · cases h
    refine ⟨fun h => absurd h (by decide), fun h => absurd h (by decide), fun _ M' hM' => ?_⟩
    obtain rfl : mX23_name = M' := Option.some.inj ((show ab_gM (hb_Gx O X) 5909 = some mX23_name from rfl).symm.trans hM')
    exact ⟨fun _ => (hb_w 2692 (by decide +kernel)), (hb_w 215 (by decide +kernel)), by decide +kernel, fun _ => ⟨(hb_w 2694 (by decide +kernel)), (hb_w 115 (by decide +kernel)), _, rfl, rfl⟩, fun h => absurd h (by decide), fun h => absurd h (by decide), fun h => absurd h (by decide)⟩
  · cases h
    refine ⟨fun h => absurd h (by decide), fun h => absurd h (by decide), fun _ M' hM' => ?_⟩
    obtain rfl : mX23_isTold = M' := Option.some.inj ((show ab_gM (hb_Gx O X) 5893 = some mX23_isTold from rfl).symm.trans hM')
    exact ⟨fun _ => (hb_w 2718 (by decide +kernel)), (hb_w 215 (by decide +kernel)), by decide +kernel, fun _ => ⟨(hb_w 2720 (by decide +kernel)), (hb_w 117 (by decide +kernel)), _, rfl, rfl⟩, fun h => absurd h (by decide), fun h => absurd h (by decide), fun h => absurd h (by decide)⟩
  · cases h
    refine ⟨fun h => absurd h (by decide), fun h => absurd h (by decide), fun _ M' hM' => ?_⟩
    obtain rfl : mX19_be = M' := Option.some.inj ((show ab_gM (hb_Gx O X) 4865 = some mX19_be from rfl).symm.trans hM')
    exact ⟨fun _ => (hb_w 2746 (by decide +kernel)), (hb_w 221 (by decide +kernel)), by decide +kernel, fun _ => ⟨(hb_w 2747 (by decide +kernel)), (hb_w 2748 (by decide +kernel)), _, rfl, rfl⟩, fun h => absurd h (by decide), fun h => absurd h (by decide), fun h => absurd h (by decide)⟩
  · cases h
    refine ⟨fun h => absurd h (by decide), fun h => absurd h (by decide), fun _ M' hM' => ?_⟩
    obtain rfl : mX23_want = M' := Option.some.inj ((show ab_gM (hb_Gx O X) 5906 = some mX23_want from rfl).symm.trans hM')
    exact ⟨fun _ => (hb_w 2754 (by decide +kernel)), (hb_w 215 (by decide +kernel)), by decide +kernel, fun _ => ⟨(hb_w 2756 (by decide +kernel)), (hb_w 124 (by decide +kernel)), _, rfl, rfl⟩, fun h => absurd h (by decide), fun h => absurd h (by decide), fun h => absurd h (by decide)⟩
  · cases h
    refine ⟨fun h => absurd h (by decide), fun h => absurd h (by decide), fun _ M' hM' => ?_⟩
    obtain rfl : mX23_makeRows = M' := Option.some.inj ((show ab_gM (hb_Gx O X) 5895 = some mX23_makeRows from rfl).symm.trans hM')
    exact ⟨fun _ => (hb_w 2203 (by decide +kernel)), (hb_w 215 (by decide +kernel)), by decide +kernel, fun _ => ⟨(hb_w 2205 (by decide +kernel)), (hb_w 99 (by decide +kernel)), _, rfl, rfl⟩, fun h => absurd h (by decide), fun h => absurd h (by decide), fun h => absurd h (by decide)⟩
  · cases h
    refine ⟨fun h => absurd h (by decide), fun h => absurd h (by decide), fun _ M' hM' => ?_⟩
    obtain rfl : mX23_specs = M' := Option.some.inj ((show ab_gM (hb_Gx O X) 5919 = some mX23_specs from rfl).symm.trans hM')
    exact ⟨fun _ => (hb_w 2770 (by decide +kernel)), (hb_w 215 (by decide +kernel)), by decide +kernel, fun _ => ⟨(hb_w 2772 (by decide +kernel)), (hb_w 128 (by decide +kernel)), _, rfl, rfl⟩, fun h => absurd h (by decide), fun h => absurd h (by decide), fun h => absurd h (by decide)⟩
  · cases h
    refine ⟨fun h => absurd h (by decide), fun h => absurd h (by decide), fun _ M' hM' => ?_⟩
    obtain rfl : mX23_test = M' := Option.some.inj ((show ab_gM (hb_Gx O X) 5922 = some mX23_test from rfl).symm.trans hM')
    exact ⟨fun _ => (hb_w 2782 (by decide +kernel)), (hb_w 215 (by decide +kernel)), by decide +kernel, fun _ => ⟨(hb_w 2784 (by decide +kernel)), (hb_w 131 (by decide +kernel)), _, rfl, rfl⟩, fun h => absurd h (by decide), fun h => absurd h (by decide), fun h => absurd h (by decide)⟩
  · cases h
    refine ⟨fun h => absurd h (by decide), fun h => absurd h (by decide), fun _ M' hM' => ?_⟩
    obtain rfl : mX23_e = M' := Option.some.inj ((show ab_gM (hb_Gx O X) 5930 = some mX23_e from rfl).symm.trans hM')
    exact ⟨fun _ => (hb_w 2964 (by decide +kernel)), (hb_w 215 (by decide +kernel)), by decide +kernel, fun _ => ⟨(hb_w 2966 (by decide +kernel)), (hb_w 143 (by decide +kernel)), _, rfl, rfl⟩, fun h => absurd h (by decide), fun h => absurd h (by decide), fun h => absurd h (by decide)⟩
  · cases h
    refine ⟨fun h => absurd h (by decide), fun h => absurd h (by decide), fun _ M' hM' => ?_⟩
    obtain rfl : mX23_isThere = M' := Option.some.inj ((show ab_gM (hb_Gx O X) 5921 = some mX23_isThere from rfl).symm.trans hM')
    exact ⟨fun _ => (hb_w 3000 (by decide +kernel)), (hb_w 215 (by decide +kernel)), by decide +kernel, fun _ => ⟨(hb_w 3002 (by decide +kernel)), (hb_w 152 (by decide +kernel)), _, rfl, rfl⟩, fun h => absurd h (by decide), fun h => absurd h (by decide), fun h => absurd h (by decide)⟩
  · cases h
    refine ⟨fun h => absurd h (by decide), fun h => absurd h (by decide), fun _ M' hM' => ?_⟩
    obtain rfl : mX23_isSame = M' := Option.some.inj ((show ab_gM (hb_Gx O X) 5889 = some mX23_isSame from rfl).symm.trans hM')
    exact ⟨fun _ => (hb_w 2774 (by decide +kernel)), (hb_w 215 (by decide +kernel)), by decide +kernel, fun _ => ⟨(hb_w 2776 (by decide +kernel)), (hb_w 129 (by decide +kernel)), _, rfl, rfl⟩, fun h => absurd h (by decide), fun h => absurd h (by decide), fun h => absurd h (by decide)⟩
  · cases h
    refine ⟨fun h => absurd h (by decide), fun h => absurd h (by decide), fun _ M' hM' => ?_⟩
    obtain rfl : mX23_signed = M' := Option.some.inj ((show ab_gM (hb_Gx O X) 5920 = some mX23_signed from rfl).symm.trans hM')
    exact ⟨fun _ => (hb_w 2778 (by decide +kernel)), (hb_w 215 (by decide +kernel)), by decide +kernel, fun _ => ⟨(hb_w 2780 (by decide +kernel)), (hb_w 130 (by decide +kernel)), _, rfl, rfl⟩, fun h => absurd h (by decide), fun h => absurd h (by decide), fun h => absurd h (by decide)⟩
  · cases h
    refine ⟨fun h => absurd h (by decide), fun h => absurd h (by decide), fun _ M' hM' => ?_⟩
    obtain rfl : mX23_conjunction = M' := Option.some.inj ((show ab_gM (hb_Gx O X) 5924 = some mX23_conjunction from rfl).symm.trans hM')
    exact ⟨fun _ => (hb_w 2786 (by decide +kernel)), (hb_w 215 (by decide +kernel)), by decide +kernel, fun _ => ⟨(hb_w 2788 (by decide +kernel)), (hb_w 132 (by decide +kernel)), _, rfl, rfl⟩, fun h => absurd h (by decide), fun h => absurd h (by decide), fun h => absurd h (by decide)⟩
  · cases h
    refine ⟨fun h => absurd h (by decide), fun h => absurd h (by decide), fun _ M' hM' => ?_⟩
    obtain rfl : mX23_two = M' := Option.some.inj ((show ab_gM (hb_Gx O X) 5923 = some mX23_two from rfl).symm.trans hM')
    exact ⟨fun _ => (hb_w 2960 (by decide +kernel)), (hb_w 215 (by decide +kernel)), by decide +kernel, fun _ => ⟨(hb_w 2962 (by decide +kernel)), (hb_w 142 (by decide +kernel)), _, rfl, rfl⟩, fun h => absurd h (by decide), fun h => absurd h (by decide), fun h => absurd h (by decide)⟩
  · cases h
    refine ⟨fun h => absurd h (by decide), fun h => absurd h (by decide), fun _ M' hM' => ?_⟩
    obtain rfl : mX21_get = M' := Option.some.inj ((show ab_gM (hb_Gx O X) 5377 = some mX21_get from rfl).symm.trans hM')
    exact ⟨fun _ => (hb_w 2798 (by decide +kernel)), (hb_w 216 (by decide +kernel)), by decide +kernel, fun _ => ⟨(hb_w 2799 (by decide +kernel)), (hb_w 2800 (by decide +kernel)), _, rfl, rfl⟩, fun h => absurd h (by decide), fun h => absurd h (by decide), fun h => absurd h (by decide)⟩
  · cases h
    refine ⟨fun h => absurd h (by decide), fun h => absurd h (by decide), fun _ M' hM' => ?_⟩
    obtain rfl : mX23_single = M' := Option.some.inj ((show ab_gM (hb_Gx O X) 5926 = some mX23_single from rfl).symm.trans hM')
    exact ⟨fun _ => (hb_w 2790 (by decide +kernel)), (hb_w 215 (by decide +kernel)), by decide +kernel, fun _ => ⟨(hb_w 2792 (by decide +kernel)), (hb_w 133 (by decide +kernel)), _, rfl, rfl⟩, fun h => absurd h (by decide), fun h => absurd h (by decide), fun h => absurd h (by decide)⟩
  · cases h
    refine ⟨fun h => absurd h (by decide), fun h => absurd h (by decide), fun _ M' hM' => ?_⟩
    obtain rfl : mX23_into = M' := Option.some.inj ((show ab_gM (hb_Gx O X) 5911 = some mX23_into from rfl).symm.trans hM')
    exact ⟨fun _ => (hb_w 2794 (by decide +kernel)), (hb_w 215 (by decide +kernel)), by decide +kernel, fun _ => ⟨(hb_w 2796 (by decide +kernel)), (hb_w 134 (by decide +kernel)), _, rfl, rfl⟩, fun h => absurd h (by decide), fun h => absurd h (by decide), fun h => absurd h (by decide)⟩
  · cases h
    refine ⟨fun h => absurd h (by decide), fun h => absurd h (by decide), fun _ M' hM' => ?_⟩
    obtain rfl : mX23_comparison = M' := Option.some.inj ((show ab_gM (hb_Gx O X) 5927 = some mX23_comparison from rfl).symm.trans hM')
    exact ⟨fun _ => (hb_w 2944 (by decide +kernel)), (hb_w 215 (by decide +kernel)), by decide +kernel, fun _ => ⟨(hb_w 2946 (by decide +kernel)), (hb_w 138 (by decide +kernel)), _, rfl, rfl⟩, fun h => absurd h (by decide), fun h => absurd h (by decide), fun h => absurd h (by decide)⟩
  · cases h
    refine ⟨fun h => absurd h (by decide), fun h => absurd h (by decide), fun _ M' hM' => ?_⟩
    obtain rfl : mX23_spec = M' := Option.some.inj ((show ab_gM (hb_Gx O X) 5925 = some mX23_spec from rfl).symm.trans hM')
    exact ⟨fun _ => (hb_w 2948 (by decide +kernel)), (hb_w 215 (by decide +kernel)), by decide +kernel, fun _ => ⟨(hb_w 2950 (by decide +kernel)), (hb_w 139 (by decide +kernel)), _, rfl, rfl⟩, fun h => absurd h (by decide), fun h => absurd h (by decide), fun h => absurd h (by decide)⟩
  · cases h
    refine ⟨fun h => absurd h (by decide), fun h => absurd h (by decide), fun _ M' hM' => ?_⟩
    obtain rfl : mX23_counts = M' := Option.some.inj ((show ab_gM (hb_Gx O X) 5928 = some mX23_counts from rfl).symm.trans hM')
    exact ⟨fun _ => (hb_w 2952 (by decide +kernel)), (hb_w 215 (by decide +kernel)), by decide +kernel, fun _ => ⟨(hb_w 2954 (by decide +kernel)), (hb_w 140 (by decide +kernel)), _, rfl, rfl⟩, fun h => absurd h (by decide), fun h => absurd h (by decide), fun h => absurd h (by decide)⟩
  · cases h
    refine ⟨fun h => absurd h (by decide), fun h => absurd h (by decide), fun _ M' hM' => ?_⟩
    obtain rfl : mX23_behind = M' := Option.some.inj ((show ab_gM (hb_Gx O X) 5929 = some mX23_behind from rfl).symm.trans hM')
    exact ⟨fun _ => (hb_w 2956 (by decide +kernel)), (hb_w 215 (by decide +kernel)), by decide +kernel, fun _ => ⟨(hb_w 2958 (by decide +kernel)), (hb_w 141 (by decide +kernel)), _, rfl, rfl⟩, fun h => absurd h (by decide), fun h => absurd h (by decide), fun h => absurd h (by decide)⟩
  · cases h
    refine ⟨fun h => absurd h (by decide), fun h => absurd h (by decide), fun _ M' hM' => ?_⟩
    obtain rfl : mX23_counted = M' := Option.some.inj ((show ab_gM (hb_Gx O X) 5912 = some mX23_counted from rfl).symm.trans hM')
    exact ⟨fun _ => (hb_w 2968 (by decide +kernel)), (hb_w 215 (by decide +kernel)), by decide +kernel, fun _ => ⟨(hb_w 2970 (by decide +kernel)), (hb_w 144 (by decide +kernel)), _, rfl, rfl⟩, fun h => absurd h (by decide), fun h => absurd h (by decide), fun h => absurd h (by decide)⟩
  · cases h
    refine ⟨fun h => absurd h (by decide), fun h => absurd h (by decide), fun _ M' hM' => ?_⟩
    obtain rfl : mX23_want_ = M' := Option.some.inj ((show ab_gM (hb_Gx O X) 5907 = some mX23_want_ from rfl).symm.trans hM')
    exact ⟨fun _ => (hb_w 2972 (by decide +kernel)), (hb_w 215 (by decide +kernel)), by decide +kernel, fun _ => ⟨(hb_w 2974 (by decide +kernel)), (hb_w 145 (by decide +kernel)), _, rfl, rfl⟩, fun h => absurd h (by decide), fun h => absurd h (by decide), fun h => absurd h (by decide)⟩
  · cases h
    refine ⟨fun h => absurd h (by decide), fun h => absurd h (by decide), fun _ M' hM' => ?_⟩
    obtain rfl : mX23_under = M' := Option.some.inj ((show ab_gM (hb_Gx O X) 5931 = some mX23_under from rfl).symm.trans hM')
    exact ⟨fun _ => (hb_w 2976 (by decide +kernel)), (hb_w 215 (by decide +kernel)), by decide +kernel, fun _ => ⟨(hb_w 2978 (by decide +kernel)), (hb_w 146 (by decide +kernel)), _, rfl, rfl⟩, fun h => absurd h (by decide), fun h => absurd h (by decide), fun h => absurd h (by decide)⟩
  · cases h
    refine ⟨fun h => absurd h (by decide), fun h => absurd h (by decide), fun _ M' hM' => ?_⟩
    obtain rfl : mX23_compared = M' := Option.some.inj ((show ab_gM (hb_Gx O X) 5932 = some mX23_compared from rfl).symm.trans hM')
    exact ⟨fun _ => (hb_w 2980 (by decide +kernel)), (hb_w 215 (by decide +kernel)), by decide +kernel, fun _ => ⟨(hb_w 2982 (by decide +kernel)), (hb_w 147 (by decide +kernel)), _, rfl, rfl⟩, fun h => absurd h (by decide), fun h => absurd h (by decide), fun h => absurd h (by decide)⟩
  · cases h
    refine ⟨fun h => absurd h (by decide), fun h => absurd h (by decide), fun _ M' hM' => ?_⟩
    obtain rfl : mX23_chain = M' := Option.some.inj ((show ab_gM (hb_Gx O X) 5933 = some mX23_chain from rfl).symm.trans hM')
    exact ⟨fun _ => (hb_w 2984 (by decide +kernel)), (hb_w 215 (by decide +kernel)), by decide +kernel, fun _ => ⟨(hb_w 2986 (by decide +kernel)), (hb_w 148 (by decide +kernel)), _, rfl, rfl⟩, fun h => absurd h (by decide), fun h => absurd h (by decide), fun h => absurd h (by decide)⟩
  · cases h
    refine ⟨fun h => absurd h (by decide), fun h => absurd h (by decide), fun _ M' hM' => ?_⟩
    obtain rfl : mX23_p = M' := Option.some.inj ((show ab_gM (hb_Gx O X) 5934 = some mX23_p from rfl).symm.trans hM')
    exact ⟨fun _ => (hb_w 2988 (by decide +kernel)), (hb_w 215 (by decide +kernel)), by decide +kernel, fun _ => ⟨(hb_w 2990 (by decide +kernel)), (hb_w 149 (by decide +kernel)), _, rfl, rfl⟩, fun h => absurd h (by decide), fun h => absurd h (by decide), fun h => absurd h (by decide)⟩
  · cases h
    refine ⟨fun h => absurd h (by decide), fun h => absurd h (by decide), fun _ M' hM' => ?_⟩
    obtain rfl : mX23_named = M' := Option.some.inj ((show ab_gM (hb_Gx O X) 5935 = some mX23_named from rfl).symm.trans hM')
    exact ⟨fun _ => (hb_w 2992 (by decide +kernel)), (hb_w 215 (by decide +kernel)), by decide +kernel, fun _ => ⟨(hb_w 2994 (by decide +kernel)), (hb_w 150 (by decide +kernel)), _, rfl, rfl⟩, fun h => absurd h (by decide), fun h => absurd h (by decide), fun h => absurd h (by decide)⟩
  · cases h
    refine ⟨fun h => absurd h (by decide), fun h => absurd h (by decide), fun _ M' hM' => ?_⟩
    obtain rfl : mX23_arguments = M' := Option.some.inj ((show ab_gM (hb_Gx O X) 5936 = some mX23_arguments from rfl).symm.trans hM')
    exact ⟨fun _ => (hb_w 2996 (by decide +kernel)), (hb_w 215 (by decide +kernel)), by decide +kernel, fun _ => ⟨(hb_w 2998 (by decide +kernel)), (hb_w 151 (by decide +kernel)), _, rfl, rfl⟩, fun h => absurd h (by decide), fun h => absurd h (by decide), fun h => absurd h (by decide)⟩
  · cases h
    refine ⟨fun h => absurd h (by decide), fun h => absurd h (by decide), fun _ M' hM' => ?_⟩
    obtain rfl : mX23_isBelow = M' := Option.some.inj ((show ab_gM (hb_Gx O X) 5894 = some mX23_isBelow from rfl).symm.trans hM')
    exact ⟨fun _ => (hb_w 2221 (by decide +kernel)), (hb_w 215 (by decide +kernel)), by decide +kernel, fun _ => ⟨(hb_w 2223 (by decide +kernel)), (hb_w 103 (by decide +kernel)), _, rfl, rfl⟩, fun h => absurd h (by decide), fun h => absurd h (by decide), fun h => absurd h (by decide)⟩
  · cases h
    refine ⟨fun h => absurd h (by decide), fun h => absurd h (by decide), fun _ M' hM' => ?_⟩
    obtain rfl : mX23_forget = M' := Option.some.inj ((show ab_gM (hb_Gx O X) 5949 = some mX23_forget from rfl).symm.trans hM')
    exact ⟨fun _ => (hb_w 2229 (by decide +kernel)), (hb_w 215 (by decide +kernel)), by decide +kernel, fun _ => ⟨(hb_w 2231 (by decide +kernel)), (hb_w 104 (by decide +kernel)), _, rfl, rfl⟩, fun h => absurd h (by decide), fun h => absurd h (by decide), fun h => absurd h (by decide)⟩
  · cases h
    refine ⟨fun h => absurd h (by decide), fun h => absurd h (by decide), fun _ M' hM' => ?_⟩
    obtain rfl : mX23_atom = M' := Option.some.inj ((show ab_gM (hb_Gx O X) 5940 = some mX23_atom from rfl).symm.trans hM')
    exact ⟨fun _ => (hb_w 3061 (by decide +kernel)), (hb_w 215 (by decide +kernel)), by decide +kernel, fun _ => ⟨(hb_w 3063 (by decide +kernel)), (hb_w 159 (by decide +kernel)), _, rfl, rfl⟩, fun h => absurd h (by decide), fun h => absurd h (by decide), fun h => absurd h (by decide)⟩
  · cases h
    refine ⟨fun h => absurd h (by decide), fun h => absurd h (by decide), fun _ M' hM' => ?_⟩
    obtain rfl : mX23_atoms = M' := Option.some.inj ((show ab_gM (hb_Gx O X) 5941 = some mX23_atoms from rfl).symm.trans hM')
    exact ⟨fun _ => (hb_w 3065 (by decide +kernel)), (hb_w 215 (by decide +kernel)), by decide +kernel, fun _ => ⟨(hb_w 3067 (by decide +kernel)), (hb_w 160 (by decide +kernel)), _, rfl, rfl⟩, fun h => absurd h (by decide), fun h => absurd h (by decide), fun h => absurd h (by decide)⟩
  · cases h
    refine ⟨fun h => absurd h (by decide), fun h => absurd h (by decide), fun _ M' hM' => ?_⟩
    obtain rfl : mX23_explore = M' := Option.some.inj ((show ab_gM (hb_Gx O X) 5943 = some mX23_explore from rfl).symm.trans hM')
    exact ⟨fun _ => (hb_w 3070 (by decide +kernel)), (hb_w 215 (by decide +kernel)), by decide +kernel, fun _ => ⟨(hb_w 3072 (by decide +kernel)), (hb_w 161 (by decide +kernel)), _, rfl, rfl⟩, fun h => absurd h (by decide), fun h => absurd h (by decide), fun h => absurd h (by decide)⟩
  · cases h
    refine ⟨fun h => absurd h (by decide), fun h => absurd h (by decide), fun _ M' hM' => ?_⟩
    obtain rfl : mX23_takes = M' := Option.some.inj ((show ab_gM (hb_Gx O X) 5947 = some mX23_takes from rfl).symm.trans hM')
    exact ⟨fun _ => (hb_w 3074 (by decide +kernel)), (hb_w 215 (by decide +kernel)), by decide +kernel, fun _ => ⟨(hb_w 3076 (by decide +kernel)), (hb_w 162 (by decide +kernel)), _, rfl, rfl⟩, fun h => absurd h (by decide), fun h => absurd h (by decide), fun h => absurd h (by decide)⟩
  · cases h
    refine ⟨fun h => absurd h (by decide), fun h => absurd h (by decide), fun _ M' hM' => ?_⟩
    obtain rfl : mJ13_signum_95d88 = M' := Option.some.inj ((show ab_gM (hb_Gx O X) 8962 = some mJ13_signum_95d88 from rfl).symm.trans hM')
    exact ⟨fun _ => (hb_w 3088 (by decide +kernel)), (hb_w 239 (by decide +kernel)), by decide +kernel, fun h => absurd h (by decide), fun _ => (hb_w 3089 (by decide +kernel)), fun h => absurd h (by decide), fun h => absurd h (by decide)⟩
  · cases h
    refine ⟨fun h => absurd h (by decide), fun h => absurd h (by decide), fun _ M' hM' => ?_⟩
    obtain rfl : mX23_bound = M' := Option.some.inj ((show ab_gM (hb_Gx O X) 5944 = some mX23_bound from rfl).symm.trans hM')
    exact ⟨fun _ => (hb_w 3091 (by decide +kernel)), (hb_w 215 (by decide +kernel)), by decide +kernel, fun h => absurd h (by decide), fun _ => (hb_w 3092 (by decide +kernel)), fun h => absurd h (by decide), fun h => absurd h (by decide)⟩
  · cases h
    refine ⟨fun h => absurd h (by decide), fun h => absurd h (by decide), fun _ M' hM' => ?_⟩
    obtain rfl : mX23_both = M' := Option.some.inj ((show ab_gM (hb_Gx O X) 5945 = some mX23_both from rfl).symm.trans hM')
    exact ⟨fun _ => (hb_w 3078 (by decide +kernel)), (hb_w 215 (by decide +kernel)), by decide +kernel, fun h => absurd h (by decide), fun _ => (hb_w 3079 (by decide +kernel)), fun h => absurd h (by decide), fun h => absurd h (by decide)⟩
  · cases h
    refine ⟨fun h => absurd h (by decide), fun h => absurd h (by decide), fun _ M' hM' => ?_⟩
    obtain rfl : mX23_holds = M' := Option.some.inj ((show ab_gM (hb_Gx O X) 5948 = some mX23_holds from rfl).symm.trans hM')
    exact ⟨fun _ => (hb_w 3081 (by decide +kernel)), (hb_w 215 (by decide +kernel)), by decide +kernel, fun _ => ⟨(hb_w 3083 (by decide +kernel)), (hb_w 163 (by decide +kernel)), _, rfl, rfl⟩, fun h => absurd h (by decide), fun h => absurd h (by decide), fun h => absurd h (by decide)⟩
  · cases h
    refine ⟨fun h => absurd h (by decide), fun h => absurd h (by decide), fun _ M' hM' => ?_⟩
    obtain rfl : mX23_not = M' := Option.some.inj ((show ab_gM (hb_Gx O X) 5946 = some mX23_not from rfl).symm.trans hM')
    exact ⟨fun _ => (hb_w 3085 (by decide +kernel)), (hb_w 215 (by decide +kernel)), by decide +kernel, fun h => absurd h (by decide), fun _ => (hb_w 3086 (by decide +kernel)), fun h => absurd h (by decide), fun h => absurd h (by decide)⟩
  · cases h
    refine ⟨fun h => absurd h (by decide), fun h => absurd h (by decide), fun _ M' hM' => ?_⟩
    obtain rfl : mX23_reckoned = M' := Option.some.inj ((show ab_gM (hb_Gx O X) 5951 = some mX23_reckoned from rfl).symm.trans hM')
    exact ⟨fun _ => (hb_w 3049 (by decide +kernel)), (hb_w 215 (by decide +kernel)), by decide +kernel, fun _ => ⟨(hb_w 3051 (by decide +kernel)), (hb_w 156 (by decide +kernel)), _, rfl, rfl⟩, fun h => absurd h (by decide), fun h => absurd h (by decide), fun h => absurd h (by decide)⟩
  · cases h
    refine ⟨fun h => absurd h (by decide), fun h => absurd h (by decide), fun _ M' hM' => ?_⟩
    obtain rfl : mX23_asksMore = M' := Option.some.inj ((show ab_gM (hb_Gx O X) 5952 = some mX23_asksMore from rfl).symm.trans hM')
    exact ⟨fun _ => (hb_w 3053 (by decide +kernel)), (hb_w 215 (by decide +kernel)), by decide +kernel, fun _ => ⟨(hb_w 3055 (by decide +kernel)), (hb_w 157 (by decide +kernel)), _, rfl, rfl⟩, fun h => absurd h (by decide), fun h => absurd h (by decide), fun h => absurd h (by decide)⟩
  · cases h
    refine ⟨fun h => absurd h (by decide), fun h => absurd h (by decide), fun _ M' hM' => ?_⟩
    obtain rfl : mJ6_compare_7cf53 = M' := Option.some.inj ((show ab_gM (hb_Gx O X) 8448 = some mJ6_compare_7cf53 from rfl).symm.trans hM')
    exact ⟨fun _ => (hb_w 3094 (by decide +kernel)), (hb_w 206 (by decide +kernel)), by decide +kernel, fun h => absurd h (by decide), fun _ => (hb_w 1615 (by decide +kernel)), fun h => absurd h (by decide), fun h => absurd h (by decide)⟩
  · cases h
    refine ⟨fun h => absurd h (by decide), fun h => absurd h (by decide), fun _ M' hM' => ?_⟩
    obtain rfl : mX23_see = M' := Option.some.inj ((show ab_gM (hb_Gx O X) 5942 = some mX23_see from rfl).symm.trans hM')
    exact ⟨fun _ => (hb_w 3057 (by decide +kernel)), (hb_w 215 (by decide +kernel)), by decide +kernel, fun _ => ⟨(hb_w 3059 (by decide +kernel)), (hb_w 158 (by decide +kernel)), _, rfl, rfl⟩, fun h => absurd h (by decide), fun h => absurd h (by decide), fun h => absurd h (by decide)⟩
  · cases h
    refine ⟨fun h => absurd h (by decide), fun h => absurd h (by decide), fun _ M' hM' => ?_⟩
    obtain rfl : mX23_isAlike = M' := Option.some.inj ((show ab_gM (hb_Gx O X) 5954 = some mX23_isAlike from rfl).symm.trans hM')
    exact ⟨fun _ => (hb_w 3108 (by decide +kernel)), (hb_w 215 (by decide +kernel)), by decide +kernel, fun h => absurd h (by decide), fun _ => (hb_w 3109 (by decide +kernel)), fun h => absurd h (by decide), fun h => absurd h (by decide)⟩
  · cases h
    refine ⟨fun h => absurd h (by decide), fun h => absurd h (by decide), fun _ M' hM' => ?_⟩
    obtain rfl : mX23_group = M' := Option.some.inj ((show ab_gM (hb_Gx O X) 5953 = some mX23_group from rfl).symm.trans hM')
    exact ⟨fun _ => (hb_w 3103 (by decide +kernel)), (hb_w 215 (by decide +kernel)), by decide +kernel, fun _ => ⟨(hb_w 3105 (by decide +kernel)), (hb_w 165 (by decide +kernel)), _, rfl, rfl⟩, fun h => absurd h (by decide), fun h => absurd h (by decide), fun h => absurd h (by decide)⟩
  · cases h
    refine ⟨fun h => absurd h (by decide), fun h => absurd h (by decide), fun _ M' hM' => ?_⟩
    obtain rfl : mX23_nothingIs = M' := Option.some.inj ((show ab_gM (hb_Gx O X) 5956 = some mX23_nothingIs from rfl).symm.trans hM')
    exact ⟨fun _ => (hb_w 3111 (by decide +kernel)), (hb_w 215 (by decide +kernel)), by decide +kernel, fun _ => ⟨(hb_w 3113 (by decide +kernel)), (hb_w 166 (by decide +kernel)), _, rfl, rfl⟩, fun h => absurd h (by decide), fun h => absurd h (by decide), fun h => absurd h (by decide)⟩
  · cases h
    refine ⟨fun h => absurd h (by decide), fun h => absurd h (by decide), fun _ M' hM' => ?_⟩
    obtain rfl : mX23_isNew = M' := Option.some.inj ((show ab_gM (hb_Gx O X) 5955 = some mX23_isNew from rfl).symm.trans hM')
    exact ⟨fun _ => (hb_w 3115 (by decide +kernel)), (hb_w 215 (by decide +kernel)), by decide +kernel, fun _ => ⟨(hb_w 3117 (by decide +kernel)), (hb_w 167 (by decide +kernel)), _, rfl, rfl⟩, fun h => absurd h (by decide), fun h => absurd h (by decide), fun h => absurd h (by decide)⟩
  · cases h
    refine ⟨fun h => absurd h (by decide), fun h => absurd h (by decide), fun _ M' hM' => ?_⟩
    obtain rfl : mX23_place = M' := Option.some.inj ((show ab_gM (hb_Gx O X) 5959 = some mX23_place from rfl).symm.trans hM')
    exact ⟨fun _ => (hb_w 3142 (by decide +kernel)), (hb_w 215 (by decide +kernel)), by decide +kernel, fun h => absurd h (by decide), fun _ => (hb_w 3143 (by decide +kernel)), fun h => absurd h (by decide), fun h => absurd h (by decide)⟩
  · cases h
    refine ⟨fun h => absurd h (by decide), fun h => absurd h (by decide), fun _ M' hM' => ?_⟩
    obtain rfl : mX23_matter = M' := Option.some.inj ((show ab_gM (hb_Gx O X) 5961 = some mX23_matter from rfl).symm.trans hM')
    exact ⟨fun _ => (hb_w 3138 (by decide +kernel)), (hb_w 215 (by decide +kernel)), by decide +kernel, fun _ => ⟨(hb_w 3140 (by decide +kernel)), (hb_w 172 (by decide +kernel)), _, rfl, rfl⟩, fun h => absurd h (by decide), fun h => absurd h (by decide), fun h => absurd h (by decide)⟩
  · cases h
    refine ⟨fun h => absurd h (by decide), fun h => absurd h (by decide), fun _ M' hM' => ?_⟩
    obtain rfl : mX23_orderCount = M' := Option.some.inj ((show ab_gM (hb_Gx O X) 5960 = some mX23_orderCount from rfl).symm.trans hM')
    exact ⟨fun _ => (hb_w 3130 (by decide +kernel)), (hb_w 215 (by decide +kernel)), by decide +kernel, fun _ => ⟨(hb_w 3132 (by decide +kernel)), (hb_w 170 (by decide +kernel)), _, rfl, rfl⟩, fun h => absurd h (by decide), fun h => absurd h (by decide), fun h => absurd h (by decide)⟩
  · cases h
    refine ⟨fun h => absurd h (by decide), fun h => absurd h (by decide), fun _ M' hM' => ?_⟩
    obtain rfl : mX23_nodeCount = M' := Option.some.inj ((show ab_gM (hb_Gx O X) 5962 = some mX23_nodeCount from rfl).symm.trans hM')
    exact ⟨fun _ => (hb_w 3134 (by decide +kernel)), (hb_w 215 (by decide +kernel)), by decide +kernel, fun _ => ⟨(hb_w 3136 (by decide +kernel)), (hb_w 171 (by decide +kernel)), _, rfl, rfl⟩, fun h => absurd h (by decide), fun h => absurd h (by decide), fun h => absurd h (by decide)⟩
  · cases h
    refine ⟨fun h => absurd h (by decide), fun h => absurd h (by decide), fun _ M' hM' => ?_⟩
    obtain rfl : mX23_order = M' := Option.some.inj ((show ab_gM (hb_Gx O X) 5963 = some mX23_order from rfl).symm.trans hM')
    exact ⟨fun _ => (hb_w 3126 (by decide +kernel)), (hb_w 215 (by decide +kernel)), by decide +kernel, fun _ => ⟨(hb_w 3128 (by decide +kernel)), (hb_w 169 (by decide +kernel)), _, rfl, rfl⟩, fun h => absurd h (by decide), fun h => absurd h (by decide), fun h => absurd h (by decide)⟩
  · cases h
    refine ⟨fun h => absurd h (by decide), fun h => absurd h (by decide), fun _ M' hM' => ?_⟩
    obtain rfl : mX23_without = M' := Option.some.inj ((show ab_gM (hb_Gx O X) 5965 = some mX23_without from rfl).symm.trans hM')
    exact ⟨fun _ => (hb_w 3206 (by decide +kernel)), (hb_w 215 (by decide +kernel)), by decide +kernel, fun h => absurd h (by decide), fun _ => (hb_w 3207 (by decide +kernel)), fun h => absurd h (by decide), fun h => absurd h (by decide)⟩
  · cases h
    refine ⟨fun h => absurd h (by decide), fun h => absurd h (by decide), fun _ M' hM' => ?_⟩
    obtain rfl : mX23_isOn = M' := Option.some.inj ((show ab_gM (hb_Gx O X) 5967 = some mX23_isOn from rfl).symm.trans hM')
    exact ⟨fun _ => (hb_w 3237 (by decide +kernel)), (hb_w 215 (by decide +kernel)), by decide +kernel, fun h => absurd h (by decide), fun _ => (hb_w 3238 (by decide +kernel)), fun h => absurd h (by decide), fun h => absurd h (by decide)⟩
  · cases h
    refine ⟨fun h => absurd h (by decide), fun h => absurd h (by decide), fun _ M' hM' => ?_⟩
    obtain rfl : mX23_isTrue = M' := Option.some.inj ((show ab_gM (hb_Gx O X) 5970 = some mX23_isTrue from rfl).symm.trans hM')
    exact ⟨fun _ => (hb_w 3240 (by decide +kernel)), (hb_w 215 (by decide +kernel)), by decide +kernel, fun _ => ⟨(hb_w 3242 (by decide +kernel)), (hb_w 189 (by decide +kernel)), _, rfl, rfl⟩, fun h => absurd h (by decide), fun h => absurd h (by decide), fun h => absurd h (by decide)⟩
  · cases h
    refine ⟨fun h => absurd h (by decide), fun h => absurd h (by decide), fun _ M' hM' => ?_⟩
    obtain rfl : mX23_term = M' := Option.some.inj ((show ab_gM (hb_Gx O X) 5969 = some mX23_term from rfl).symm.trans hM')
    exact ⟨fun _ => (hb_w 3244 (by decide +kernel)), (hb_w 215 (by decide +kernel)), by decide +kernel, fun h => absurd h (by decide), fun _ => (hb_w 3245 (by decide +kernel)), fun h => absurd h (by decide), fun h => absurd h (by decide)⟩
  · cases h
    refine ⟨fun h => absurd h (by decide), fun h => absurd h (by decide), fun _ M' hM' => ?_⟩
    obtain rfl : mX23_nearer = M' := Option.some.inj ((show ab_gM (hb_Gx O X) 5950 = some mX23_nearer from rfl).symm.trans hM')
    exact ⟨fun _ => (hb_w 3045 (by decide +kernel)), (hb_w 215 (by decide +kernel)), by decide +kernel, fun _ => ⟨(hb_w 3047 (by decide +kernel)), (hb_w 155 (by decide +kernel)), _, rfl, rfl⟩, fun h => absurd h (by decide), fun h => absurd h (by decide), fun h => absurd h (by decide)⟩
  · cases h
    refine ⟨fun h => absurd h (by decide), fun h => absurd h (by decide), fun _ M' hM' => ?_⟩
    obtain rfl : mX23_firstOf = M' := Option.some.inj ((show ab_gM (hb_Gx O X) 5971 = some mX23_firstOf from rfl).symm.trans hM')
    exact ⟨fun _ => (hb_w 3175 (by decide +kernel)), (hb_w 215 (by decide +kernel)), by decide +kernel, fun _ => ⟨(hb_w 3177 (by decide +kernel)), (hb_w 178 (by decide +kernel)), _, rfl, rfl⟩, fun h => absurd h (by decide), fun h => absurd h (by decide), fun h => absurd h (by decide)⟩
  · cases h
    refine ⟨fun h => absurd h (by decide), fun h => absurd h (by decide), fun _ M' hM' => ?_⟩
    obtain rfl : mJ9_max_7cf53 = M' := Option.some.inj ((show ab_gM (hb_Gx O X) 9216 = some mJ9_max_7cf53 from rfl).symm.trans hM')
    exact ⟨fun _ => (hb_w 3251 (by decide +kernel)), (hb_w 231 (by decide +kernel)), by decide +kernel, fun h => absurd h (by decide), fun _ => (hb_w 1059 (by decide +kernel)), fun h => absurd h (by decide), fun h => absurd h (by decide)⟩
  · cases h
    refine ⟨fun h => absurd h (by decide), fun h => absurd h (by decide), fun _ M' hM' => ?_⟩
    obtain rfl : mX23_value = M' := Option.some.inj ((show ab_gM (hb_Gx O X) 5973 = some mX23_value from rfl).symm.trans hM')
    exact ⟨fun _ => (hb_w 3187 (by decide +kernel)), (hb_w 215 (by decide +kernel)), by decide +kernel, fun h => absurd h (by decide), fun _ => (hb_w 3188 (by decide +kernel)), fun h => absurd h (by decide), fun h => absurd h (by decide)⟩
  · cases h
    refine ⟨fun h => absurd h (by decide), fun h => absurd h (by decide), fun _ M' hM' => ?_⟩
    obtain rfl : mX23_ends = M' := Option.some.inj ((show ab_gM (hb_Gx O X) 5976 = some mX23_ends from rfl).symm.trans hM')
    exact ⟨fun _ => (hb_w 3199 (by decide +kernel)), (hb_w 215 (by decide +kernel)), by decide +kernel, fun _ => ⟨(hb_w 3201 (by decide +kernel)), (hb_w 182 (by decide +kernel)), _, rfl, rfl⟩, fun h => absurd h (by decide), fun h => absurd h (by decide), fun h => absurd h (by decide)⟩
  · cases h
    refine ⟨fun h => absurd h (by decide), fun h => absurd h (by decide), fun _ M' hM' => ?_⟩
    obtain rfl : mX23_step = M' := Option.some.inj ((show ab_gM (hb_Gx O X) 5977 = some mX23_step from rfl).symm.trans hM')
    exact ⟨fun _ => (hb_w 3195 (by decide +kernel)), (hb_w 215 (by decide +kernel)), by decide +kernel, fun _ => ⟨(hb_w 3197 (by decide +kernel)), (hb_w 181 (by decide +kernel)), _, rfl, rfl⟩, fun h => absurd h (by decide), fun h => absurd h (by decide), fun h => absurd h (by decide)⟩
  · cases h
    refine ⟨fun h => absurd h (by decide), fun h => absurd h (by decide), fun _ M' hM' => ?_⟩
    obtain rfl : mX23_with = M' := Option.some.inj ((show ab_gM (hb_Gx O X) 5966 = some mX23_with from rfl).symm.trans hM')
    exact ⟨fun _ => (hb_w 3203 (by decide +kernel)), (hb_w 215 (by decide +kernel)), by decide +kernel, fun h => absurd h (by decide), fun _ => (hb_w 3204 (by decide +kernel)), fun h => absurd h (by decide), fun h => absurd h (by decide)⟩
  · cases h
    refine ⟨fun h => absurd h (by decide), fun h => absurd h (by decide), fun _ M' hM' => ?_⟩
    obtain rfl : mX23_kindIn = M' := Option.some.inj ((show ab_gM (hb_Gx O X) 5974 = some mX23_kindIn from rfl).symm.trans hM')
    exact ⟨fun _ => (hb_w 3210 (by decide +kernel)), (hb_w 215 (by decide +kernel)), by decide +kernel, fun h => absurd h (by decide), fun _ => (hb_w 3211 (by decide +kernel)), fun h => absurd h (by decide), fun h => absurd h (by decide)⟩
  · cases h
    refine ⟨fun h => absurd h (by decide), fun h => absurd h (by decide), fun _ M' hM' => ?_⟩
    obtain rfl : mX23_chained = M' := Option.some.inj ((show ab_gM (hb_Gx O X) 5978 = some mX23_chained from rfl).symm.trans hM')
    exact ⟨fun _ => (hb_w 3213 (by decide +kernel)), (hb_w 215 (by decide +kernel)), by decide +kernel, fun _ => ⟨(hb_w 3215 (by decide +kernel)), (hb_w 183 (by decide +kernel)), _, rfl, rfl⟩, fun h => absurd h (by decide), fun h => absurd h (by decide), fun h => absurd h (by decide)⟩
  · cases h
    refine ⟨fun h => absurd h (by decide), fun h => absurd h (by decide), fun _ M' hM' => ?_⟩
    obtain rfl : mX23_further = M' := Option.some.inj ((show ab_gM (hb_Gx O X) 5980 = some mX23_further from rfl).symm.trans hM')
    exact ⟨fun _ => (hb_w 3265 (by decide +kernel)), (hb_w 215 (by decide +kernel)), by decide +kernel, fun _ => ⟨(hb_w 3267 (by decide +kernel)), (hb_w 194 (by decide +kernel)), _, rfl, rfl⟩, fun h => absurd h (by decide), fun h => absurd h (by decide), fun h => absurd h (by decide)⟩
  · cases h
    refine ⟨fun h => absurd h (by decide), fun h => absurd h (by decide), fun _ M' hM' => ?_⟩
    obtain rfl : mX23_fault = M' := Option.some.inj ((show ab_gM (hb_Gx O X) 5975 = some mX23_fault from rfl).symm.trans hM')
    exact ⟨fun _ => (hb_w 3217 (by decide +kernel)), (hb_w 215 (by decide +kernel)), by decide +kernel, fun _ => ⟨(hb_w 3219 (by decide +kernel)), (hb_w 184 (by decide +kernel)), _, rfl, rfl⟩, fun h => absurd h (by decide), fun h => absurd h (by decide), fun h => absurd h (by decide)⟩
  · cases h
    refine ⟨fun h => absurd h (by decide), fun h => absurd h (by decide), fun _ M' hM' => ?_⟩
    obtain rfl : mX23_looks = M' := Option.some.inj ((show ab_gM (hb_Gx O X) 5964 = some mX23_looks from rfl).symm.trans hM')
    exact ⟨fun _ => (hb_w 3225 (by decide +kernel)), (hb_w 215 (by decide +kernel)), by decide +kernel, fun _ => ⟨(hb_w 3227 (by decide +kernel)), (hb_w 186 (by decide +kernel)), _, rfl, rfl⟩, fun h => absurd h (by decide), fun h => absurd h (by decide), fun h => absurd h (by decide)⟩
  · cases h
    refine ⟨fun h => absurd h (by decide), fun h => absurd h (by decide), fun _ M' hM' => ?_⟩
    obtain rfl : mX23_choose = M' := Option.some.inj ((show ab_gM (hb_Gx O X) 5979 = some mX23_choose from rfl).symm.trans hM')
    exact ⟨fun _ => (hb_w 3229 (by decide +kernel)), (hb_w 215 (by decide +kernel)), by decide +kernel, fun _ => ⟨(hb_w 3231 (by decide +kernel)), (hb_w 187 (by decide +kernel)), _, rfl, rfl⟩, fun h => absurd h (by decide), fun h => absurd h (by decide), fun h => absurd h (by decide)⟩
  · cases h
    refine ⟨fun h => absurd h (by decide), fun h => absurd h (by decide), fun _ M' hM' => ?_⟩
    obtain rfl : mX23_inside = M' := Option.some.inj ((show ab_gM (hb_Gx O X) 5981 = some mX23_inside from rfl).symm.trans hM')
    exact ⟨fun _ => (hb_w 3256 (by decide +kernel)), (hb_w 215 (by decide +kernel)), by decide +kernel, fun _ => ⟨(hb_w 3258 (by decide +kernel)), (hb_w 192 (by decide +kernel)), _, rfl, rfl⟩, fun h => absurd h (by decide), fun h => absurd h (by decide), fun h => absurd h (by decide)⟩
  · cases h
    refine ⟨fun h => absurd h (by decide), fun h => absurd h (by decide), fun _ M' hM' => ?_⟩
    obtain rfl : mX23_has = M' := Option.some.inj ((show ab_gM (hb_Gx O X) 5937 = some mX23_has from rfl).symm.trans hM')
    exact ⟨fun _ => (hb_w 3153 (by decide +kernel)), (hb_w 215 (by decide +kernel)), by decide +kernel, fun h => absurd h (by decide), fun _ => (hb_w 3154 (by decide +kernel)), fun h => absurd h (by decide), fun h => absurd h (by decide)⟩
  · cases h
    refine ⟨fun h => absurd h (by decide), fun h => absurd h (by decide), fun _ M' hM' => ?_⟩
    obtain rfl : mX23_fits = M' := Option.some.inj ((show ab_gM (hb_Gx O X) 5939 = some mX23_fits from rfl).symm.trans hM')
    exact ⟨fun _ => (hb_w 3041 (by decide +kernel)), (hb_w 215 (by decide +kernel)), by decide +kernel, fun _ => ⟨(hb_w 3043 (by decide +kernel)), (hb_w 154 (by decide +kernel)), _, rfl, rfl⟩, fun h => absurd h (by decide), fun h => absurd h (by decide), fun h => absurd h (by decide)⟩
  · cases h
    refine ⟨fun h => absurd h (by decide), fun h => absurd h (by decide), fun _ M' hM' => ?_⟩
    obtain rfl : mX23_applies = M' := Option.some.inj ((show ab_gM (hb_Gx O X) 5968 = some mX23_applies from rfl).symm.trans hM')
    exact ⟨fun _ => (hb_w 3233 (by decide +kernel)), (hb_w 215 (by decide +kernel)), by decide +kernel, fun _ => ⟨(hb_w 3235 (by decide +kernel)), (hb_w 188 (by decide +kernel)), _, rfl, rfl⟩, fun h => absurd h (by decide), fun h => absurd h (by decide), fun h => absurd h (by decide)⟩
  · cases h
    refine ⟨fun h => absurd h (by decide), fun h => absurd h (by decide), fun _ M' hM' => ?_⟩
    obtain rfl : mX23_chooseRow = M' := Option.some.inj ((show ab_gM (hb_Gx O X) 5972 = some mX23_chooseRow from rfl).symm.trans hM')
    exact ⟨fun _ => (hb_w 3247 (by decide +kernel)), (hb_w 215 (by decide +kernel)), by decide +kernel, fun _ => ⟨(hb_w 3249 (by decide +kernel)), (hb_w 190 (by decide +kernel)), _, rfl, rfl⟩, fun h => absurd h (by decide), fun h => absurd h (by decide), fun h => absurd h (by decide)⟩
  · cases h
    refine ⟨fun h => absurd h (by decide), fun h => absurd h (by decide), fun _ M' hM' => ?_⟩
    obtain rfl : mX23_joined_ = M' := Option.some.inj ((show ab_gM (hb_Gx O X) 5982 = some mX23_joined_ from rfl).symm.trans hM')
    exact ⟨fun _ => (hb_w 3260 (by decide +kernel)), (hb_w 215 (by decide +kernel)), by decide +kernel, fun _ => ⟨(hb_w 3262 (by decide +kernel)), (hb_w 193 (by decide +kernel)), _, rfl, rfl⟩, fun h => absurd h (by decide), fun h => absurd h (by decide), fun h => absurd h (by decide)⟩
  · cases h
    refine ⟨fun h => absurd h (by decide), fun h => absurd h (by decide), fun _ M' hM' => ?_⟩
    obtain rfl : mJ9_min_7cf53 = M' := Option.some.inj ((show ab_gM (hb_Gx O X) 9217 = some mJ9_min_7cf53 from rfl).symm.trans hM')
    exact ⟨fun _ => (hb_w 3264 (by decide +kernel)), (hb_w 231 (by decide +kernel)), by decide +kernel, fun h => absurd h (by decide), fun _ => (hb_w 1112 (by decide +kernel)), fun h => absurd h (by decide), fun h => absurd h (by decide)⟩
  · cases h
    refine ⟨fun h => absurd h (by decide), fun h => absurd h (by decide), fun _ M' hM' => ?_⟩
    obtain rfl : mX23_cells = M' := Option.some.inj ((show ab_gM (hb_Gx O X) 5958 = some mX23_cells from rfl).symm.trans hM')
    exact ⟨fun _ => (hb_w 3122 (by decide +kernel)), (hb_w 215 (by decide +kernel)), by decide +kernel, fun _ => ⟨(hb_w 3124 (by decide +kernel)), (hb_w 168 (by decide +kernel)), _, rfl, rfl⟩, fun h => absurd h (by decide), fun h => absurd h (by decide), fun h => absurd h (by decide)⟩
  · cases h
    refine ⟨fun h => absurd h (by decide), fun h => absurd h (by decide), fun _ M' hM' => ?_⟩
    obtain rfl : mX23_collect = M' := Option.some.inj ((show ab_gM (hb_Gx O X) 5984 = some mX23_collect from rfl).symm.trans hM')
    exact ⟨fun _ => (hb_w 3149 (by decide +kernel)), (hb_w 215 (by decide +kernel)), by decide +kernel, fun _ => ⟨(hb_w 3151 (by decide +kernel)), (hb_w 174 (by decide +kernel)), _, rfl, rfl⟩, fun h => absurd h (by decide), fun h => absurd h (by decide), fun h => absurd h (by decide)⟩
  · cases h
    refine ⟨fun h => absurd h (by decide), fun h => absurd h (by decide), fun _ M' hM' => ?_⟩
    obtain rfl : mX23_bad = M' := Option.some.inj ((show ab_gM (hb_Gx O X) 5985 = some mX23_bad from rfl).symm.trans hM')
    exact ⟨fun _ => (hb_w 3160 (by decide +kernel)), (hb_w 215 (by decide +kernel)), by decide +kernel, fun _ => ⟨(hb_w 3162 (by decide +kernel)), (hb_w 175 (by decide +kernel)), _, rfl, rfl⟩, fun h => absurd h (by decide), fun h => absurd h (by decide), fun h => absurd h (by decide)⟩
  · cases h
    refine ⟨fun h => absurd h (by decide), fun h => absurd h (by decide), fun _ M' hM' => ?_⟩
    obtain rfl : mX18_asks = M' := Option.some.inj ((show ab_gM (hb_Gx O X) 4609 = some mX18_asks from rfl).symm.trans hM')
    exact ⟨fun _ => (hb_w 3156 (by decide +kernel)), (hb_w 223 (by decide +kernel)), by decide +kernel, fun _ => ⟨(hb_w 3157 (by decide +kernel)), (hb_w 3158 (by decide +kernel)), _, rfl, rfl⟩, fun h => absurd h (by decide), fun h => absurd h (by decide), fun h => absurd h (by decide)⟩
  · cases h
    refine ⟨fun h => absurd h (by decide), fun h => absurd h (by decide), fun _ M' hM' => ?_⟩
    obtain rfl : mX23_lookAt = M' := Option.some.inj ((show ab_gM (hb_Gx O X) 5986 = some mX23_lookAt from rfl).symm.trans hM')
    exact ⟨fun _ => (hb_w 3164 (by decide +kernel)), (hb_w 215 (by decide +kernel)), by decide +kernel, fun _ => ⟨(hb_w 3166 (by decide +kernel)), (hb_w 176 (by decide +kernel)), _, rfl, rfl⟩, fun h => absurd h (by decide), fun h => absurd h (by decide), fun h => absurd h (by decide)⟩
  · cases h
    refine ⟨fun h => absurd h (by decide), fun h => absurd h (by decide), fun _ M' hM' => ?_⟩
    obtain rfl : mX23_isSeveral = M' := Option.some.inj ((show ab_gM (hb_Gx O X) 5988 = some mX23_isSeveral from rfl).symm.trans hM')
    exact ⟨fun _ => (hb_w 3171 (by decide +kernel)), (hb_w 215 (by decide +kernel)), by decide +kernel, fun _ => ⟨(hb_w 3173 (by decide +kernel)), (hb_w 177 (by decide +kernel)), _, rfl, rfl⟩, fun h => absurd h (by decide), fun h => absurd h (by decide), fun h => absurd h (by decide)⟩
  · cases h
    refine ⟨fun h => absurd h (by decide), fun h => absurd h (by decide), fun _ M' hM' => ?_⟩
    obtain rfl : mX23_asksKinds = M' := Option.some.inj ((show ab_gM (hb_Gx O X) 5987 = some mX23_asksKinds from rfl).symm.trans hM')
    exact ⟨fun _ => (hb_w 3168 (by decide +kernel)), (hb_w 215 (by decide +kernel)), by decide +kernel, fun h => absurd h (by decide), fun _ => (hb_w 3169 (by decide +kernel)), fun h => absurd h (by decide), fun h => absurd h (by decide)⟩
  · cases h
    exact ⟨fun _ => ⟨(hb_w 1959 (by decide +kernel)), (hb_w 247 (by decide +kernel)), (hb_w 248 (by decide +kernel))⟩, fun h => absurd h (by decide), fun h => absurd h (by decide)⟩
  · cases h
    refine ⟨fun h => absurd h (by decide), fun h => absurd h (by decide), fun _ M' hM' => ?_⟩
    obtain rfl : mX21_init = M' := Option.some.inj ((show ab_gM (hb_Gx O X) 5376 = some mX21_init from rfl).symm.trans hM')
    exact ⟨fun h => absurd rfl h, (hb_w 216 (by decide +kernel)), by decide +kernel, fun h => absurd h (by decide), fun h => absurd h (by decide), fun h => absurd h (by decide), fun _ => ⟨rfl, (hb_w 1971 (by decide +kernel)), rfl⟩⟩
  · cases h
    refine ⟨fun h => absurd h (by decide), fun h => absurd h (by decide), fun _ M' hM' => ?_⟩
    obtain rfl : mX17_init = M' := Option.some.inj ((show ab_gM (hb_Gx O X) 4352 = some mX17_init from rfl).symm.trans hM')
    exact ⟨fun h => absurd rfl h, (hb_w 220 (by decide +kernel)), by decide +kernel, fun h => absurd h (by decide), fun h => absurd h (by decide), fun h => absurd h (by decide), fun _ => ⟨rfl, (hb_w 2013 (by decide +kernel)), rfl⟩⟩
  · cases h
    refine ⟨fun h => absurd h (by decide), fun h => absurd h (by decide), fun _ M' hM' => ?_⟩
    obtain rfl : mX13_init = M' := Option.some.inj ((show ab_gM (hb_Gx O X) 3328 = some mX13_init from rfl).symm.trans hM')
    exact ⟨fun h => absurd rfl h, (hb_w 222 (by decide +kernel)), by decide +kernel, fun h => absurd h (by decide), fun h => absurd h (by decide), fun h => absurd h (by decide), fun _ => ⟨rfl, (hb_w 2055 (by decide +kernel)), rfl⟩⟩
  · cases h
    refine ⟨fun h => absurd h (by decide), fun h => absurd h (by decide), fun _ M' hM' => ?_⟩
    obtain rfl : mX18_init = M' := Option.some.inj ((show ab_gM (hb_Gx O X) 4608 = some mX18_init from rfl).symm.trans hM')
    exact ⟨fun h => absurd rfl h, (hb_w 223 (by decide +kernel)), by decide +kernel, fun h => absurd h (by decide), fun h => absurd h (by decide), fun h => absurd h (by decide), fun _ => ⟨rfl, (hb_w 2076 (by decide +kernel)), rfl⟩⟩
  · cases h
    refine ⟨fun h => absurd h (by decide), fun h => absurd h (by decide), fun _ M' hM' => ?_⟩
    obtain rfl : mX16_init = M' := Option.some.inj ((show ab_gM (hb_Gx O X) 4096 = some mX16_init from rfl).symm.trans hM')
    exact ⟨fun _ => (hb_w 2136 (by decide +kernel)), (hb_w 227 (by decide +kernel)), by decide +kernel, fun h => absurd h (by decide), fun h => absurd h (by decide), fun h => absurd h (by decide), fun _ => ⟨rfl, (hb_w 2137 (by decide +kernel)), rfl⟩⟩
  · cases h
    refine ⟨fun h => absurd h (by decide), fun h => absurd h (by decide), fun _ M' hM' => ?_⟩
    obtain rfl : mX15_init = M' := Option.some.inj ((show ab_gM (hb_Gx O X) 3840 = some mX15_init from rfl).symm.trans hM')
    exact ⟨fun _ => (hb_w 2159 (by decide +kernel)), (hb_w 228 (by decide +kernel)), by decide +kernel, fun h => absurd h (by decide), fun h => absurd h (by decide), fun h => absurd h (by decide), fun _ => ⟨rfl, (hb_w 2160 (by decide +kernel)), rfl⟩⟩
  · cases h
    refine ⟨fun h => absurd h (by decide), fun h => absurd h (by decide), fun _ M' hM' => ?_⟩
    obtain rfl : mX19_init = M' := Option.some.inj ((show ab_gM (hb_Gx O X) 4864 = some mX19_init from rfl).symm.trans hM')
    exact ⟨fun h => absurd rfl h, (hb_w 221 (by decide +kernel)), by decide +kernel, fun h => absurd h (by decide), fun h => absurd h (by decide), fun h => absurd h (by decide), fun _ => ⟨rfl, (hb_w 2019 (by decide +kernel)), rfl⟩⟩
  · cases h
    refine ⟨fun h => absurd h (by decide), fun h => absurd h (by decide), fun _ M' hM' => ?_⟩
    obtain rfl : mX14_init = M' := Option.some.inj ((show ab_gM (hb_Gx O X) 3584 = some mX14_init from rfl).symm.trans hM')
    exact ⟨fun h => absurd rfl h, (hb_w 229 (by decide +kernel)), by decide +kernel, fun h => absurd h (by decide), fun h => absurd h (by decide), fun h => absurd h (by decide), fun _ => ⟨rfl, (hb_w 2168 (by decide +kernel)), rfl⟩⟩
  · cases h
    refine ⟨fun h => absurd h (by decide), fun h => absurd h (by decide), fun _ M' hM' => ?_⟩
    obtain rfl : mX23_beginning = M' := Option.some.inj ((show ab_gM (hb_Gx O X) 5990 = some mX23_beginning from rfl).symm.trans hM')
    exact ⟨fun _ => (hb_w 2188 (by decide +kernel)), (hb_w 215 (by decide +kernel)), by decide +kernel, fun _ => ⟨(hb_w 2190 (by decide +kernel)), (hb_w 97 (by decide +kernel)), _, rfl, rfl⟩, fun h => absurd h (by decide), fun h => absurd h (by decide), fun h => absurd h (by decide)⟩
  · cases h
    refine ⟨fun h => absurd h (by decide), fun h => absurd h (by decide), fun _ M' hM' => ?_⟩
    obtain rfl : mX23_tellKind = M' := Option.some.inj ((show ab_gM (hb_Gx O X) 5991 = some mX23_tellKind from rfl).symm.trans hM')
    exact ⟨fun _ => (hb_w 2193 (by decide +kernel)), (hb_w 215 (by decide +kernel)), by decide +kernel, fun _ => ⟨(hb_w 2195 (by decide +kernel)), (hb_w 98 (by decide +kernel)), _, rfl, rfl⟩, fun h => absurd h (by decide), fun h => absurd h (by decide), fun h => absurd h (by decide)⟩
  · cases h
    refine ⟨fun h => absurd h (by decide), fun h => absurd h (by decide), fun _ M' hM' => ?_⟩
    obtain rfl : mX23_rebuild = M' := Option.some.inj ((show ab_gM (hb_Gx O X) 5938 = some mX23_rebuild from rfl).symm.trans hM')
    exact ⟨fun _ => (hb_w 2217 (by decide +kernel)), (hb_w 215 (by decide +kernel)), by decide +kernel, fun _ => ⟨(hb_w 2219 (by decide +kernel)), (hb_w 102 (by decide +kernel)), _, rfl, rfl⟩, fun h => absurd h (by decide), fun h => absurd h (by decide), fun h => absurd h (by decide)⟩
  · cases h
    refine ⟨fun h => absurd h (by decide), fun h => absurd h (by decide), fun _ M' hM' => ?_⟩
    obtain rfl : mX19_be_ = M' := Option.some.inj ((show ab_gM (hb_Gx O X) 4866 = some mX19_be_ from rfl).symm.trans hM')
    exact ⟨fun _ => (hb_w 2197 (by decide +kernel)), (hb_w 221 (by decide +kernel)), by decide +kernel, fun _ => ⟨(hb_w 2198 (by decide +kernel)), (hb_w 2199 (by decide +kernel)), _, rfl, rfl⟩, fun h => absurd h (by decide), fun h => absurd h (by decide), fun h => absurd h (by decide)⟩
  · cases h
    refine ⟨fun h => absurd h (by decide), fun h => absurd h (by decide), fun _ M' hM' => ?_⟩
    obtain rfl : mX23_no_ = M' := Option.some.inj ((show ab_gM (hb_Gx O X) 5993 = some mX23_no_ from rfl).symm.trans hM')
    exact ⟨fun _ => (hb_w 2587 (by decide +kernel)), (hb_w 215 (by decide +kernel)), by decide +kernel, fun _ => ⟨(hb_w 2589 (by decide +kernel)), (hb_w 105 (by decide +kernel)), _, rfl, rfl⟩, fun h => absurd h (by decide), fun h => absurd h (by decide), fun h => absurd h (by decide)⟩
  · cases h
    refine ⟨fun h => absurd h (by decide), fun h => absurd h (by decide), fun _ M' hM' => ?_⟩
    obtain rfl : mX23_word_ = M' := Option.some.inj ((show ab_gM (hb_Gx O X) 5995 = some mX23_word_ from rfl).symm.trans hM')
    exact ⟨fun _ => (hb_w 2591 (by decide +kernel)), (hb_w 215 (by decide +kernel)), by decide +kernel, fun _ => ⟨(hb_w 2593 (by decide +kernel)), (hb_w 106 (by decide +kernel)), _, rfl, rfl⟩, fun h => absurd h (by decide), fun h => absurd h (by decide), fun h => absurd h (by decide)⟩
  · cases h
    refine ⟨fun h => absurd h (by decide), fun h => absurd h (by decide), fun _ M' hM' => ?_⟩
    obtain rfl : mX23_readText = M' := Option.some.inj ((show ab_gM (hb_Gx O X) 5913 = some mX23_readText from rfl).symm.trans hM')
    exact ⟨fun _ => (hb_w 2604 (by decide +kernel)), (hb_w 215 (by decide +kernel)), by decide +kernel, fun _ => ⟨(hb_w 2606 (by decide +kernel)), (hb_w 107 (by decide +kernel)), _, rfl, rfl⟩, fun h => absurd h (by decide), fun h => absurd h (by decide), fun h => absurd h (by decide)⟩
  · cases h
    refine ⟨fun h => absurd h (by decide), fun h => absurd h (by decide), fun _ M' hM' => ?_⟩
    obtain rfl : mX23_isKind = M' := Option.some.inj ((show ab_gM (hb_Gx O X) 6001 = some mX23_isKind from rfl).symm.trans hM')
    exact ⟨fun _ => (hb_w 3029 (by decide +kernel)), (hb_w 215 (by decide +kernel)), by decide +kernel, fun _ => ⟨(hb_w 3031 (by decide +kernel)), (hb_w 153 (by decide +kernel)), _, rfl, rfl⟩, fun h => absurd h (by decide), fun h => absurd h (by decide), fun h => absurd h (by decide)⟩
  · cases h
    refine ⟨fun h => absurd h (by decide), fun h => absurd h (by decide), fun _ M' hM' => ?_⟩
    obtain rfl : mX23_lists = M' := Option.some.inj ((show ab_gM (hb_Gx O X) 5957 = some mX23_lists from rfl).symm.trans hM')
    exact ⟨fun _ => (hb_w 3099 (by decide +kernel)), (hb_w 215 (by decide +kernel)), by decide +kernel, fun _ => ⟨(hb_w 3101 (by decide +kernel)), (hb_w 164 (by decide +kernel)), _, rfl, rfl⟩, fun h => absurd h (by decide), fun h => absurd h (by decide), fun h => absurd h (by decide)⟩
  · cases h
    refine ⟨fun h => absurd h (by decide), fun h => absurd h (by decide), fun _ M' hM' => ?_⟩
    obtain rfl : mX23_judge = M' := Option.some.inj ((show ab_gM (hb_Gx O X) 5983 = some mX23_judge from rfl).symm.trans hM')
    exact ⟨fun _ => (hb_w 3145 (by decide +kernel)), (hb_w 215 (by decide +kernel)), by decide +kernel, fun _ => ⟨(hb_w 3147 (by decide +kernel)), (hb_w 173 (by decide +kernel)), _, rfl, rfl⟩, fun h => absurd h (by decide), fun h => absurd h (by decide), fun h => absurd h (by decide)⟩
  · cases h
theorem hb_T31_ok (O : Nat → Option String) (X : ab_X) : ∀ (ix sort y na ci : Nat), hb_T31 ix = some (sort, y, na, ci) → ∀ M : ab_MI, ab_mo M = 31 → (ab_my M).cls = RJ11 →
    (sort = 4 → Cond.methodLink (ab_my M).cls ix objectInit ∈ hb_TB ∧ Cond.instanceMethod objectInit ∈ hb_TB ∧ Cond.code objectInit ⟨#[0xb1]⟩ 1 none ∈ hb_TB) ∧
    (sort = 5 → Cond.methodLink (ab_my M).cls ix arraycopyName ∈ hb_TB ∧ Cond.native arraycopyName ∈ hb_TB ∧ Cond.static arraycopyName ∈ hb_TB ∧ Cond.initialized "java/lang/System" ∈ hb_TB) ∧
    (sort < 4 ∨ sort = 6 → ∀ M' : ab_MI, ab_gM (hb_Gx O X) y = some M' → (sort ≠ 3 → Cond.methodLink (ab_my M).cls ix (ab_my M') ∈ hb_TB) ∧ Cond.initialized (ab_my M').cls ∈ hb_TB ∧ ((ab_my M').cls ≠ "java/lang/invoke/MethodHandle" ∧ (ab_my M').cls ≠ "java/lang/invoke/VarHandle" ∧ (parseMethodDescriptor (ab_my M').desc).map (fun d => d.parameters.length) = some na) ∧
      (sort = 0 → Cond.instanceMethod (ab_my M') ∈ hb_TB ∧ Cond.selects (ab_my M').cls (ab_my M') (ab_my M') ∈ hb_TB ∧ ∃ q : vw_C, (ab_gK (hb_Gx O X))[ci]? = some q ∧ q.1 = (ab_my M').cls) ∧
      (sort = 1 → Cond.static (ab_my M') ∈ hb_TB) ∧
      (sort = 6 → Cond.instanceMethod (ab_my M') ∈ hb_TB ∧ Cond.selects (ab_my M').cls (ab_my M') (ab_my M') ∈ hb_TB ∧ (ab_my M').cls = "java/lang/String") ∧
      (sort = 2 ∨ sort = 3 → (ab_my M').name = "<init>" ∧ Cond.instanceMethod (ab_my M') ∈ hb_TB ∧ ab_mr M' = none)) := by
  intro ix sort y na ci h M _ hcl
  rw [hcl]
  unfold hb_T31 at h
  split at h
  · cases h
theorem hb_T33_ok (O : Nat → Option String) (X : ab_X) : ∀ (ix sort y na ci : Nat), hb_T33 ix = some (sort, y, na, ci) → ∀ M : ab_MI, ab_mo M = 33 → (ab_my M).cls = RJ6 →
    (sort = 4 → Cond.methodLink (ab_my M).cls ix objectInit ∈ hb_TB ∧ Cond.instanceMethod objectInit ∈ hb_TB ∧ Cond.code objectInit ⟨#[0xb1]⟩ 1 none ∈ hb_TB) ∧
    (sort = 5 → Cond.methodLink (ab_my M).cls ix arraycopyName ∈ hb_TB ∧ Cond.native arraycopyName ∈ hb_TB ∧ Cond.static arraycopyName ∈ hb_TB ∧ Cond.initialized "java/lang/System" ∈ hb_TB) ∧
    (sort < 4 ∨ sort = 6 → ∀ M' : ab_MI, ab_gM (hb_Gx O X) y = some M' → (sort ≠ 3 → Cond.methodLink (ab_my M).cls ix (ab_my M') ∈ hb_TB) ∧ Cond.initialized (ab_my M').cls ∈ hb_TB ∧ ((ab_my M').cls ≠ "java/lang/invoke/MethodHandle" ∧ (ab_my M').cls ≠ "java/lang/invoke/VarHandle" ∧ (parseMethodDescriptor (ab_my M').desc).map (fun d => d.parameters.length) = some na) ∧
      (sort = 0 → Cond.instanceMethod (ab_my M') ∈ hb_TB ∧ Cond.selects (ab_my M').cls (ab_my M') (ab_my M') ∈ hb_TB ∧ ∃ q : vw_C, (ab_gK (hb_Gx O X))[ci]? = some q ∧ q.1 = (ab_my M').cls) ∧
      (sort = 1 → Cond.static (ab_my M') ∈ hb_TB) ∧
      (sort = 6 → Cond.instanceMethod (ab_my M') ∈ hb_TB ∧ Cond.selects (ab_my M').cls (ab_my M') (ab_my M') ∈ hb_TB ∧ (ab_my M').cls = "java/lang/String") ∧
      (sort = 2 ∨ sort = 3 → (ab_my M').name = "<init>" ∧ Cond.instanceMethod (ab_my M') ∈ hb_TB ∧ ab_mr M' = none)) := by
  intro ix sort y na ci h M _ hcl
  rw [hcl]
  unfold hb_T33 at h
  split at h
  · cases h
theorem hb_T35_ok (O : Nat → Option String) (X : ab_X) : ∀ (ix sort y na ci : Nat), hb_T35 ix = some (sort, y, na, ci) → ∀ M : ab_MI, ab_mo M = 35 → (ab_my M).cls = RJ13 →
    (sort = 4 → Cond.methodLink (ab_my M).cls ix objectInit ∈ hb_TB ∧ Cond.instanceMethod objectInit ∈ hb_TB ∧ Cond.code objectInit ⟨#[0xb1]⟩ 1 none ∈ hb_TB) ∧
    (sort = 5 → Cond.methodLink (ab_my M).cls ix arraycopyName ∈ hb_TB ∧ Cond.native arraycopyName ∈ hb_TB ∧ Cond.static arraycopyName ∈ hb_TB ∧ Cond.initialized "java/lang/System" ∈ hb_TB) ∧
    (sort < 4 ∨ sort = 6 → ∀ M' : ab_MI, ab_gM (hb_Gx O X) y = some M' → (sort ≠ 3 → Cond.methodLink (ab_my M).cls ix (ab_my M') ∈ hb_TB) ∧ Cond.initialized (ab_my M').cls ∈ hb_TB ∧ ((ab_my M').cls ≠ "java/lang/invoke/MethodHandle" ∧ (ab_my M').cls ≠ "java/lang/invoke/VarHandle" ∧ (parseMethodDescriptor (ab_my M').desc).map (fun d => d.parameters.length) = some na) ∧
      (sort = 0 → Cond.instanceMethod (ab_my M') ∈ hb_TB ∧ Cond.selects (ab_my M').cls (ab_my M') (ab_my M') ∈ hb_TB ∧ ∃ q : vw_C, (ab_gK (hb_Gx O X))[ci]? = some q ∧ q.1 = (ab_my M').cls) ∧
      (sort = 1 → Cond.static (ab_my M') ∈ hb_TB) ∧
      (sort = 6 → Cond.instanceMethod (ab_my M') ∈ hb_TB ∧ Cond.selects (ab_my M').cls (ab_my M') (ab_my M') ∈ hb_TB ∧ (ab_my M').cls = "java/lang/String") ∧
      (sort = 2 ∨ sort = 3 → (ab_my M').name = "<init>" ∧ Cond.instanceMethod (ab_my M') ∈ hb_TB ∧ ab_mr M' = none)) := by
  intro ix sort y na ci h M _ hcl
  rw [hcl]
  unfold hb_T35 at h
  split at h
  · cases h
    refine ⟨fun h => absurd h (by decide), fun h => absurd h (by decide), fun _ M' hM' => ?_⟩
    obtain rfl : mJ6_numberOfTrailingZeros_0f7a4 = M' := Option.some.inj ((show ab_gM (hb_Gx O X) 8449 = some mJ6_numberOfTrailingZeros_0f7a4 from rfl).symm.trans hM')
    exact ⟨fun _ => (hb_w 1710 (by decide +kernel)), (hb_w 206 (by decide +kernel)), by decide +kernel, fun h => absurd h (by decide), fun _ => (hb_w 1711 (by decide +kernel)), fun h => absurd h (by decide), fun h => absurd h (by decide)⟩
  · cases h
theorem hb_T36_ok (O : Nat → Option String) (X : ab_X) : ∀ (ix sort y na ci : Nat), hb_T36 ix = some (sort, y, na, ci) → ∀ M : ab_MI, ab_mo M = 36 → (ab_my M).cls = RJ9 →
    (sort = 4 → Cond.methodLink (ab_my M).cls ix objectInit ∈ hb_TB ∧ Cond.instanceMethod objectInit ∈ hb_TB ∧ Cond.code objectInit ⟨#[0xb1]⟩ 1 none ∈ hb_TB) ∧
    (sort = 5 → Cond.methodLink (ab_my M).cls ix arraycopyName ∈ hb_TB ∧ Cond.native arraycopyName ∈ hb_TB ∧ Cond.static arraycopyName ∈ hb_TB ∧ Cond.initialized "java/lang/System" ∈ hb_TB) ∧
    (sort < 4 ∨ sort = 6 → ∀ M' : ab_MI, ab_gM (hb_Gx O X) y = some M' → (sort ≠ 3 → Cond.methodLink (ab_my M).cls ix (ab_my M') ∈ hb_TB) ∧ Cond.initialized (ab_my M').cls ∈ hb_TB ∧ ((ab_my M').cls ≠ "java/lang/invoke/MethodHandle" ∧ (ab_my M').cls ≠ "java/lang/invoke/VarHandle" ∧ (parseMethodDescriptor (ab_my M').desc).map (fun d => d.parameters.length) = some na) ∧
      (sort = 0 → Cond.instanceMethod (ab_my M') ∈ hb_TB ∧ Cond.selects (ab_my M').cls (ab_my M') (ab_my M') ∈ hb_TB ∧ ∃ q : vw_C, (ab_gK (hb_Gx O X))[ci]? = some q ∧ q.1 = (ab_my M').cls) ∧
      (sort = 1 → Cond.static (ab_my M') ∈ hb_TB) ∧
      (sort = 6 → Cond.instanceMethod (ab_my M') ∈ hb_TB ∧ Cond.selects (ab_my M').cls (ab_my M') (ab_my M') ∈ hb_TB ∧ (ab_my M').cls = "java/lang/String") ∧
      (sort = 2 ∨ sort = 3 → (ab_my M').name = "<init>" ∧ Cond.instanceMethod (ab_my M') ∈ hb_TB ∧ ab_mr M' = none)) := by
  intro ix sort y na ci h M _ hcl
  rw [hcl]
  unfold hb_T36 at h
  split at h
  · cases h
theorem hb_T37_ok (O : Nat → Option String) (X : ab_X) : ∀ (ix sort y na ci : Nat), hb_T37 ix = some (sort, y, na, ci) → ∀ M : ab_MI, ab_mo M = 37 → (ab_my M).cls = RJ0 →
    (sort = 4 → Cond.methodLink (ab_my M).cls ix objectInit ∈ hb_TB ∧ Cond.instanceMethod objectInit ∈ hb_TB ∧ Cond.code objectInit ⟨#[0xb1]⟩ 1 none ∈ hb_TB) ∧
    (sort = 5 → Cond.methodLink (ab_my M).cls ix arraycopyName ∈ hb_TB ∧ Cond.native arraycopyName ∈ hb_TB ∧ Cond.static arraycopyName ∈ hb_TB ∧ Cond.initialized "java/lang/System" ∈ hb_TB) ∧
    (sort < 4 ∨ sort = 6 → ∀ M' : ab_MI, ab_gM (hb_Gx O X) y = some M' → (sort ≠ 3 → Cond.methodLink (ab_my M).cls ix (ab_my M') ∈ hb_TB) ∧ Cond.initialized (ab_my M').cls ∈ hb_TB ∧ ((ab_my M').cls ≠ "java/lang/invoke/MethodHandle" ∧ (ab_my M').cls ≠ "java/lang/invoke/VarHandle" ∧ (parseMethodDescriptor (ab_my M').desc).map (fun d => d.parameters.length) = some na) ∧
      (sort = 0 → Cond.instanceMethod (ab_my M') ∈ hb_TB ∧ Cond.selects (ab_my M').cls (ab_my M') (ab_my M') ∈ hb_TB ∧ ∃ q : vw_C, (ab_gK (hb_Gx O X))[ci]? = some q ∧ q.1 = (ab_my M').cls) ∧
      (sort = 1 → Cond.static (ab_my M') ∈ hb_TB) ∧
      (sort = 6 → Cond.instanceMethod (ab_my M') ∈ hb_TB ∧ Cond.selects (ab_my M').cls (ab_my M') (ab_my M') ∈ hb_TB ∧ (ab_my M').cls = "java/lang/String") ∧
      (sort = 2 ∨ sort = 3 → (ab_my M').name = "<init>" ∧ Cond.instanceMethod (ab_my M') ∈ hb_TB ∧ ab_mr M' = none)) := by
  intro ix sort y na ci h M _ hcl
  rw [hcl]
  unfold hb_T37 at h
  split at h
  · cases h
    refine ⟨fun h => absurd h (by decide), fun h => absurd h (by decide), fun _ M' hM' => ?_⟩
    obtain rfl : mJ0_coder_7d493 = M' := Option.some.inj ((show ab_gM (hb_Gx O X) 9477 = some mJ0_coder_7d493 from rfl).symm.trans hM')
    exact ⟨fun _ => (hb_w 420 (by decide +kernel)), (hb_w 202 (by decide +kernel)), by decide +kernel, fun h => absurd h (by decide), fun h => absurd h (by decide), fun _ => ⟨(hb_w 421 (by decide +kernel)), (hb_w 422 (by decide +kernel)), rfl⟩, fun h => absurd h (by decide)⟩
  · cases h
    refine ⟨fun h => absurd h (by decide), fun h => absurd h (by decide), fun _ M' hM' => ?_⟩
    obtain rfl : mJ0_isLatin1_aae02 = M' := Option.some.inj ((show ab_gM (hb_Gx O X) 9478 = some mJ0_isLatin1_aae02 from rfl).symm.trans hM')
    exact ⟨fun _ => (hb_w 430 (by decide +kernel)), (hb_w 202 (by decide +kernel)), by decide +kernel, fun h => absurd h (by decide), fun h => absurd h (by decide), fun _ => ⟨(hb_w 431 (by decide +kernel)), (hb_w 432 (by decide +kernel)), rfl⟩, fun h => absurd h (by decide)⟩
  · cases h
    refine ⟨fun h => absurd h (by decide), fun h => absurd h (by decide), fun _ M' hM' => ?_⟩
    obtain rfl : mJ1_charAt_3b067 = M' := Option.some.inj ((show ab_gM (hb_Gx O X) 9728 = some mJ1_charAt_3b067 from rfl).symm.trans hM')
    exact ⟨fun _ => (hb_w 434 (by decide +kernel)), (hb_w 203 (by decide +kernel)), by decide +kernel, fun h => absurd h (by decide), fun _ => (hb_w 435 (by decide +kernel)), fun h => absurd h (by decide), fun h => absurd h (by decide)⟩
  · cases h
    refine ⟨fun h => absurd h (by decide), fun h => absurd h (by decide), fun _ M' hM' => ?_⟩
    obtain rfl : mJ2_charAt_3b067 = M' := Option.some.inj ((show ab_gM (hb_Gx O X) 9990 = some mJ2_charAt_3b067 from rfl).symm.trans hM')
    exact ⟨fun _ => (hb_w 445 (by decide +kernel)), (hb_w 205 (by decide +kernel)), by decide +kernel, fun h => absurd h (by decide), fun _ => (hb_w 446 (by decide +kernel)), fun h => absurd h (by decide), fun h => absurd h (by decide)⟩
  · cases h
    refine ⟨fun h => absurd h (by decide), fun h => absurd h (by decide), fun _ M' hM' => ?_⟩
    obtain rfl : mJ0_length_8abf5 = M' := Option.some.inj ((show ab_gM (hb_Gx O X) 9472 = some mJ0_length_8abf5 from rfl).symm.trans hM')
    exact ⟨fun _ => (hb_w 1103 (by decide +kernel)), (hb_w 202 (by decide +kernel)), by decide +kernel, fun h => absurd h (by decide), fun h => absurd h (by decide), fun _ => ⟨(hb_w 417 (by decide +kernel)), (hb_w 418 (by decide +kernel)), rfl⟩, fun h => absurd h (by decide)⟩
  · cases h
    refine ⟨fun h => absurd h (by decide), fun h => absurd h (by decide), fun _ M' hM' => ?_⟩
    obtain rfl : mJ1_equals_b5fdf = M' := Option.some.inj ((show ab_gM (hb_Gx O X) 9730 = some mJ1_equals_b5fdf from rfl).symm.trans hM')
    exact ⟨fun _ => (hb_w 2685 (by decide +kernel)), (hb_w 203 (by decide +kernel)), by decide +kernel, fun h => absurd h (by decide), fun _ => (hb_w 2686 (by decide +kernel)), fun h => absurd h (by decide), fun h => absurd h (by decide)⟩
  · cases h
    refine ⟨fun h => absurd h (by decide), fun h => absurd h (by decide), fun _ M' hM' => ?_⟩
    obtain rfl : mJ0_indexOf_7cf53 = M' := Option.some.inj ((show ab_gM (hb_Gx O X) 9476 = some mJ0_indexOf_7cf53 from rfl).symm.trans hM')
    exact ⟨fun _ => (hb_w 1099 (by decide +kernel)), (hb_w 202 (by decide +kernel)), by decide +kernel, fun h => absurd h (by decide), fun h => absurd h (by decide), fun _ => ⟨(hb_w 1100 (by decide +kernel)), (hb_w 1101 (by decide +kernel)), rfl⟩, fun h => absurd h (by decide)⟩
  · cases h
    refine ⟨fun h => absurd h (by decide), fun h => absurd h (by decide), fun _ M' hM' => ?_⟩
    obtain rfl : mJ1_indexOf_4cfef = M' := Option.some.inj ((show ab_gM (hb_Gx O X) 9731 = some mJ1_indexOf_4cfef from rfl).symm.trans hM')
    exact ⟨fun _ => (hb_w 1104 (by decide +kernel)), (hb_w 203 (by decide +kernel)), by decide +kernel, fun h => absurd h (by decide), fun _ => (hb_w 1105 (by decide +kernel)), fun h => absurd h (by decide), fun h => absurd h (by decide)⟩
  · cases h
    refine ⟨fun h => absurd h (by decide), fun h => absurd h (by decide), fun _ M' hM' => ?_⟩
    obtain rfl : mJ2_indexOf_4cfef = M' := Option.some.inj ((show ab_gM (hb_Gx O X) 9986 = some mJ2_indexOf_4cfef from rfl).symm.trans hM')
    exact ⟨fun _ => (hb_w 1117 (by decide +kernel)), (hb_w 205 (by decide +kernel)), by decide +kernel, fun h => absurd h (by decide), fun _ => (hb_w 1118 (by decide +kernel)), fun h => absurd h (by decide), fun h => absurd h (by decide)⟩
  · cases h
    refine ⟨fun h => absurd h (by decide), fun h => absurd h (by decide), fun _ M' hM' => ?_⟩
    obtain rfl : mJ3_checkIndex_8e157 = M' := Option.some.inj ((show ab_gM (hb_Gx O X) 13056 = some mJ3_checkIndex_8e157 from rfl).symm.trans hM')
    exact ⟨fun _ => (hb_w 442 (by decide +kernel)), (hb_w 204 (by decide +kernel)), by decide +kernel, fun h => absurd h (by decide), fun _ => (hb_w 443 (by decide +kernel)), fun h => absurd h (by decide), fun h => absurd h (by decide)⟩
  · cases h
    refine ⟨fun h => absurd h (by decide), fun h => absurd h (by decide), fun _ M' hM' => ?_⟩
    obtain rfl : mJ3_checkFromToIndex_8c36e = M' := Option.some.inj ((show ab_gM (hb_Gx O X) 13057 = some mJ3_checkFromToIndex_8c36e from rfl).symm.trans hM')
    exact ⟨fun _ => (hb_w 1132 (by decide +kernel)), (hb_w 204 (by decide +kernel)), by decide +kernel, fun h => absurd h (by decide), fun _ => (hb_w 1133 (by decide +kernel)), fun h => absurd h (by decide), fun h => absurd h (by decide)⟩
  · cases h
theorem hb_T38_ok (O : Nat → Option String) (X : ab_X) : ∀ (ix sort y na ci : Nat), hb_T38 ix = some (sort, y, na, ci) → ∀ M : ab_MI, ab_mo M = 38 → (ab_my M).cls = RJ1 →
    (sort = 4 → Cond.methodLink (ab_my M).cls ix objectInit ∈ hb_TB ∧ Cond.instanceMethod objectInit ∈ hb_TB ∧ Cond.code objectInit ⟨#[0xb1]⟩ 1 none ∈ hb_TB) ∧
    (sort = 5 → Cond.methodLink (ab_my M).cls ix arraycopyName ∈ hb_TB ∧ Cond.native arraycopyName ∈ hb_TB ∧ Cond.static arraycopyName ∈ hb_TB ∧ Cond.initialized "java/lang/System" ∈ hb_TB) ∧
    (sort < 4 ∨ sort = 6 → ∀ M' : ab_MI, ab_gM (hb_Gx O X) y = some M' → (sort ≠ 3 → Cond.methodLink (ab_my M).cls ix (ab_my M') ∈ hb_TB) ∧ Cond.initialized (ab_my M').cls ∈ hb_TB ∧ ((ab_my M').cls ≠ "java/lang/invoke/MethodHandle" ∧ (ab_my M').cls ≠ "java/lang/invoke/VarHandle" ∧ (parseMethodDescriptor (ab_my M').desc).map (fun d => d.parameters.length) = some na) ∧
      (sort = 0 → Cond.instanceMethod (ab_my M') ∈ hb_TB ∧ Cond.selects (ab_my M').cls (ab_my M') (ab_my M') ∈ hb_TB ∧ ∃ q : vw_C, (ab_gK (hb_Gx O X))[ci]? = some q ∧ q.1 = (ab_my M').cls) ∧
      (sort = 1 → Cond.static (ab_my M') ∈ hb_TB) ∧
      (sort = 6 → Cond.instanceMethod (ab_my M') ∈ hb_TB ∧ Cond.selects (ab_my M').cls (ab_my M') (ab_my M') ∈ hb_TB ∧ (ab_my M').cls = "java/lang/String") ∧
      (sort = 2 ∨ sort = 3 → (ab_my M').name = "<init>" ∧ Cond.instanceMethod (ab_my M') ∈ hb_TB ∧ ab_mr M' = none)) := by
  intro ix sort y na ci h M _ hcl
  rw [hcl]
  unfold hb_T38 at h
  split at h
  · cases h
    refine ⟨fun h => absurd h (by decide), fun h => absurd h (by decide), fun _ M' hM' => ?_⟩
    obtain rfl : mJ0_checkIndex_df160 = M' := Option.some.inj ((show ab_gM (hb_Gx O X) 9479 = some mJ0_checkIndex_df160 from rfl).symm.trans hM')
    exact ⟨fun _ => (hb_w 437 (by decide +kernel)), (hb_w 202 (by decide +kernel)), by decide +kernel, fun h => absurd h (by decide), fun _ => (hb_w 438 (by decide +kernel)), fun h => absurd h (by decide), fun h => absurd h (by decide)⟩
  · cases h
    refine ⟨fun h => absurd h (by decide), fun h => absurd h (by decide), fun _ M' hM' => ?_⟩
    obtain rfl : mJ9_min_7cf53 = M' := Option.some.inj ((show ab_gM (hb_Gx O X) 9217 = some mJ9_min_7cf53 from rfl).symm.trans hM')
    exact ⟨fun _ => (hb_w 1111 (by decide +kernel)), (hb_w 231 (by decide +kernel)), by decide +kernel, fun h => absurd h (by decide), fun _ => (hb_w 1112 (by decide +kernel)), fun h => absurd h (by decide), fun h => absurd h (by decide)⟩
  · cases h
    refine ⟨fun h => absurd h (by decide), fun h => absurd h (by decide), fun _ M' hM' => ?_⟩
    obtain rfl : mJ1_canEncode_9a6ad = M' := Option.some.inj ((show ab_gM (hb_Gx O X) 9729 = some mJ1_canEncode_9a6ad from rfl).symm.trans hM')
    exact ⟨fun _ => (hb_w 1107 (by decide +kernel)), (hb_w 203 (by decide +kernel)), by decide +kernel, fun h => absurd h (by decide), fun _ => (hb_w 1108 (by decide +kernel)), fun h => absurd h (by decide), fun h => absurd h (by decide)⟩
  · cases h
    refine ⟨fun h => absurd h (by decide), fun h => absurd h (by decide), fun _ M' hM' => ?_⟩
    obtain rfl : mJ9_max_7cf53 = M' := Option.some.inj ((show ab_gM (hb_Gx O X) 9216 = some mJ9_max_7cf53 from rfl).symm.trans hM')
    exact ⟨fun _ => (hb_w 1110 (by decide +kernel)), (hb_w 231 (by decide +kernel)), by decide +kernel, fun h => absurd h (by decide), fun _ => (hb_w 1059 (by decide +kernel)), fun h => absurd h (by decide), fun h => absurd h (by decide)⟩
  · cases h
    refine ⟨fun h => absurd h (by decide), fun h => absurd h (by decide), fun _ M' hM' => ?_⟩
    obtain rfl : mJ1_indexOfChar_4cfef = M' := Option.some.inj ((show ab_gM (hb_Gx O X) 9732 = some mJ1_indexOfChar_4cfef from rfl).symm.trans hM')
    exact ⟨fun _ => (hb_w 1114 (by decide +kernel)), (hb_w 203 (by decide +kernel)), by decide +kernel, fun h => absurd h (by decide), fun _ => (hb_w 1115 (by decide +kernel)), fun h => absurd h (by decide), fun h => absurd h (by decide)⟩
  · cases h
theorem hb_T39_ok (O : Nat → Option String) (X : ab_X) : ∀ (ix sort y na ci : Nat), hb_T39 ix = some (sort, y, na, ci) → ∀ M : ab_MI, ab_mo M = 39 → (ab_my M).cls = RJ2 →
    (sort = 4 → Cond.methodLink (ab_my M).cls ix objectInit ∈ hb_TB ∧ Cond.instanceMethod objectInit ∈ hb_TB ∧ Cond.code objectInit ⟨#[0xb1]⟩ 1 none ∈ hb_TB) ∧
    (sort = 5 → Cond.methodLink (ab_my M).cls ix arraycopyName ∈ hb_TB ∧ Cond.native arraycopyName ∈ hb_TB ∧ Cond.static arraycopyName ∈ hb_TB ∧ Cond.initialized "java/lang/System" ∈ hb_TB) ∧
    (sort < 4 ∨ sort = 6 → ∀ M' : ab_MI, ab_gM (hb_Gx O X) y = some M' → (sort ≠ 3 → Cond.methodLink (ab_my M).cls ix (ab_my M') ∈ hb_TB) ∧ Cond.initialized (ab_my M').cls ∈ hb_TB ∧ ((ab_my M').cls ≠ "java/lang/invoke/MethodHandle" ∧ (ab_my M').cls ≠ "java/lang/invoke/VarHandle" ∧ (parseMethodDescriptor (ab_my M').desc).map (fun d => d.parameters.length) = some na) ∧
      (sort = 0 → Cond.instanceMethod (ab_my M') ∈ hb_TB ∧ Cond.selects (ab_my M').cls (ab_my M') (ab_my M') ∈ hb_TB ∧ ∃ q : vw_C, (ab_gK (hb_Gx O X))[ci]? = some q ∧ q.1 = (ab_my M').cls) ∧
      (sort = 1 → Cond.static (ab_my M') ∈ hb_TB) ∧
      (sort = 6 → Cond.instanceMethod (ab_my M') ∈ hb_TB ∧ Cond.selects (ab_my M').cls (ab_my M') (ab_my M') ∈ hb_TB ∧ (ab_my M').cls = "java/lang/String") ∧
      (sort = 2 ∨ sort = 3 → (ab_my M').name = "<init>" ∧ Cond.instanceMethod (ab_my M') ∈ hb_TB ∧ ab_mr M' = none)) := by
  intro ix sort y na ci h M _ hcl
  rw [hcl]
  unfold hb_T39 at h
  split at h
  · cases h
    refine ⟨fun h => absurd h (by decide), fun h => absurd h (by decide), fun _ M' hM' => ?_⟩
    obtain rfl : mJ2_length_9d52b = M' := Option.some.inj ((show ab_gM (hb_Gx O X) 9985 = some mJ2_length_9d52b from rfl).symm.trans hM')
    exact ⟨fun _ => (hb_w 451 (by decide +kernel)), (hb_w 205 (by decide +kernel)), by decide +kernel, fun h => absurd h (by decide), fun _ => (hb_w 452 (by decide +kernel)), fun h => absurd h (by decide), fun h => absurd h (by decide)⟩
  · cases h
    refine ⟨fun h => absurd h (by decide), fun h => absurd h (by decide), fun _ M' hM' => ?_⟩
    obtain rfl : mJ2_checkIndex_2214a = M' := Option.some.inj ((show ab_gM (hb_Gx O X) 9991 = some mJ2_checkIndex_2214a from rfl).symm.trans hM')
    exact ⟨fun _ => (hb_w 448 (by decide +kernel)), (hb_w 205 (by decide +kernel)), by decide +kernel, fun h => absurd h (by decide), fun _ => (hb_w 449 (by decide +kernel)), fun h => absurd h (by decide), fun h => absurd h (by decide)⟩
  · cases h
    refine ⟨fun h => absurd h (by decide), fun h => absurd h (by decide), fun _ M' hM' => ?_⟩
    obtain rfl : mJ2_getChar_3b067 = M' := Option.some.inj ((show ab_gM (hb_Gx O X) 9984 = some mJ2_getChar_3b067 from rfl).symm.trans hM')
    exact ⟨fun _ => (hb_w 455 (by decide +kernel)), (hb_w 205 (by decide +kernel)), by decide +kernel, fun h => absurd h (by decide), fun _ => (hb_w 456 (by decide +kernel)), fun h => absurd h (by decide), fun h => absurd h (by decide)⟩
  · cases h
    refine ⟨fun h => absurd h (by decide), fun h => absurd h (by decide), fun _ M' hM' => ?_⟩
    obtain rfl : mJ2_checkBoundsBeginEnd_d044e = M' := Option.some.inj ((show ab_gM (hb_Gx O X) 9992 = some mJ2_checkBoundsBeginEnd_d044e from rfl).symm.trans hM')
    exact ⟨fun _ => (hb_w 1126 (by decide +kernel)), (hb_w 205 (by decide +kernel)), by decide +kernel, fun h => absurd h (by decide), fun _ => (hb_w 1127 (by decide +kernel)), fun h => absurd h (by decide), fun h => absurd h (by decide)⟩
  · cases h
    refine ⟨fun h => absurd h (by decide), fun h => absurd h (by decide), fun _ M' hM' => ?_⟩
    obtain rfl : mJ11_highSurrogate_5068e = M' := Option.some.inj ((show ab_gM (hb_Gx O X) 7937 = some mJ11_highSurrogate_5068e from rfl).symm.trans hM')
    exact ⟨fun _ => (hb_w 1144 (by decide +kernel)), (hb_w 234 (by decide +kernel)), by decide +kernel, fun h => absurd h (by decide), fun _ => (hb_w 1145 (by decide +kernel)), fun h => absurd h (by decide), fun h => absurd h (by decide)⟩
  · cases h
    refine ⟨fun h => absurd h (by decide), fun h => absurd h (by decide), fun _ M' hM' => ?_⟩
    obtain rfl : mJ11_lowSurrogate_5068e = M' := Option.some.inj ((show ab_gM (hb_Gx O X) 7938 = some mJ11_lowSurrogate_5068e from rfl).symm.trans hM')
    exact ⟨fun _ => (hb_w 1148 (by decide +kernel)), (hb_w 234 (by decide +kernel)), by decide +kernel, fun h => absurd h (by decide), fun _ => (hb_w 1149 (by decide +kernel)), fun h => absurd h (by decide), fun h => absurd h (by decide)⟩
  · cases h
    refine ⟨fun h => absurd h (by decide), fun h => absurd h (by decide), fun _ M' hM' => ?_⟩
    obtain rfl : mJ11_isValidCodePoint_9a6ad = M' := Option.some.inj ((show ab_gM (hb_Gx O X) 7936 = some mJ11_isValidCodePoint_9a6ad from rfl).symm.trans hM')
    exact ⟨fun _ => (hb_w 1141 (by decide +kernel)), (hb_w 234 (by decide +kernel)), by decide +kernel, fun h => absurd h (by decide), fun _ => (hb_w 1142 (by decide +kernel)), fun h => absurd h (by decide), fun h => absurd h (by decide)⟩
  · cases h
    refine ⟨fun h => absurd h (by decide), fun h => absurd h (by decide), fun _ M' hM' => ?_⟩
    obtain rfl : mJ9_min_7cf53 = M' := Option.some.inj ((show ab_gM (hb_Gx O X) 9217 = some mJ9_min_7cf53 from rfl).symm.trans hM')
    exact ⟨fun _ => (hb_w 1121 (by decide +kernel)), (hb_w 231 (by decide +kernel)), by decide +kernel, fun h => absurd h (by decide), fun _ => (hb_w 1112 (by decide +kernel)), fun h => absurd h (by decide), fun h => absurd h (by decide)⟩
  · cases h
    refine ⟨fun h => absurd h (by decide), fun h => absurd h (by decide), fun _ M' hM' => ?_⟩
    obtain rfl : mJ9_max_7cf53 = M' := Option.some.inj ((show ab_gM (hb_Gx O X) 9216 = some mJ9_max_7cf53 from rfl).symm.trans hM')
    exact ⟨fun _ => (hb_w 1120 (by decide +kernel)), (hb_w 231 (by decide +kernel)), by decide +kernel, fun h => absurd h (by decide), fun _ => (hb_w 1059 (by decide +kernel)), fun h => absurd h (by decide), fun h => absurd h (by decide)⟩
  · cases h
    refine ⟨fun h => absurd h (by decide), fun h => absurd h (by decide), fun _ M' hM' => ?_⟩
    obtain rfl : mJ2_indexOfChar_4cfef = M' := Option.some.inj ((show ab_gM (hb_Gx O X) 9987 = some mJ2_indexOfChar_4cfef from rfl).symm.trans hM')
    exact ⟨fun _ => (hb_w 1123 (by decide +kernel)), (hb_w 205 (by decide +kernel)), by decide +kernel, fun h => absurd h (by decide), fun _ => (hb_w 1124 (by decide +kernel)), fun h => absurd h (by decide), fun h => absurd h (by decide)⟩
  · cases h
    refine ⟨fun h => absurd h (by decide), fun h => absurd h (by decide), fun _ M' hM' => ?_⟩
    obtain rfl : mJ2_indexOfSupplementary_4cfef = M' := Option.some.inj ((show ab_gM (hb_Gx O X) 9989 = some mJ2_indexOfSupplementary_4cfef from rfl).symm.trans hM')
    exact ⟨fun _ => (hb_w 1138 (by decide +kernel)), (hb_w 205 (by decide +kernel)), by decide +kernel, fun h => absurd h (by decide), fun _ => (hb_w 1139 (by decide +kernel)), fun h => absurd h (by decide), fun h => absurd h (by decide)⟩
  · cases h
    refine ⟨fun h => absurd h (by decide), fun h => absurd h (by decide), fun _ M' hM' => ?_⟩
    obtain rfl : mJ0_checkBoundsBeginEnd_23922 = M' := Option.some.inj ((show ab_gM (hb_Gx O X) 9480 = some mJ0_checkBoundsBeginEnd_23922 from rfl).symm.trans hM')
    exact ⟨fun _ => (hb_w 1129 (by decide +kernel)), (hb_w 202 (by decide +kernel)), by decide +kernel, fun h => absurd h (by decide), fun _ => (hb_w 1130 (by decide +kernel)), fun h => absurd h (by decide), fun h => absurd h (by decide)⟩
  · cases h
    refine ⟨fun h => absurd h (by decide), fun h => absurd h (by decide), fun _ M' hM' => ?_⟩
    obtain rfl : mJ2_indexOfCharUnsafe_4cfef = M' := Option.some.inj ((show ab_gM (hb_Gx O X) 9988 = some mJ2_indexOfCharUnsafe_4cfef from rfl).symm.trans hM')
    exact ⟨fun _ => (hb_w 1135 (by decide +kernel)), (hb_w 205 (by decide +kernel)), by decide +kernel, fun h => absurd h (by decide), fun _ => (hb_w 1136 (by decide +kernel)), fun h => absurd h (by decide), fun h => absurd h (by decide)⟩
  · cases h
    refine ⟨fun h => absurd h (by decide), fun h => absurd h (by decide), fun _ M' hM' => ?_⟩
    obtain rfl : mJ0_checkIndex_df160 = M' := Option.some.inj ((show ab_gM (hb_Gx O X) 9479 = some mJ0_checkIndex_df160 from rfl).symm.trans hM')
    exact ⟨fun _ => (hb_w 454 (by decide +kernel)), (hb_w 202 (by decide +kernel)), by decide +kernel, fun h => absurd h (by decide), fun _ => (hb_w 438 (by decide +kernel)), fun h => absurd h (by decide), fun h => absurd h (by decide)⟩
  · cases h
theorem hb_T41_ok (O : Nat → Option String) (X : ab_X) : ∀ (ix sort y na ci : Nat), hb_T41 ix = some (sort, y, na, ci) → ∀ M : ab_MI, ab_mo M = 41 → (ab_my M).cls = RJxa1e45 →
    (sort = 4 → Cond.methodLink (ab_my M).cls ix objectInit ∈ hb_TB ∧ Cond.instanceMethod objectInit ∈ hb_TB ∧ Cond.code objectInit ⟨#[0xb1]⟩ 1 none ∈ hb_TB) ∧
    (sort = 5 → Cond.methodLink (ab_my M).cls ix arraycopyName ∈ hb_TB ∧ Cond.native arraycopyName ∈ hb_TB ∧ Cond.static arraycopyName ∈ hb_TB ∧ Cond.initialized "java/lang/System" ∈ hb_TB) ∧
    (sort < 4 ∨ sort = 6 → ∀ M' : ab_MI, ab_gM (hb_Gx O X) y = some M' → (sort ≠ 3 → Cond.methodLink (ab_my M).cls ix (ab_my M') ∈ hb_TB) ∧ Cond.initialized (ab_my M').cls ∈ hb_TB ∧ ((ab_my M').cls ≠ "java/lang/invoke/MethodHandle" ∧ (ab_my M').cls ≠ "java/lang/invoke/VarHandle" ∧ (parseMethodDescriptor (ab_my M').desc).map (fun d => d.parameters.length) = some na) ∧
      (sort = 0 → Cond.instanceMethod (ab_my M') ∈ hb_TB ∧ Cond.selects (ab_my M').cls (ab_my M') (ab_my M') ∈ hb_TB ∧ ∃ q : vw_C, (ab_gK (hb_Gx O X))[ci]? = some q ∧ q.1 = (ab_my M').cls) ∧
      (sort = 1 → Cond.static (ab_my M') ∈ hb_TB) ∧
      (sort = 6 → Cond.instanceMethod (ab_my M') ∈ hb_TB ∧ Cond.selects (ab_my M').cls (ab_my M') (ab_my M') ∈ hb_TB ∧ (ab_my M').cls = "java/lang/String") ∧
      (sort = 2 ∨ sort = 3 → (ab_my M').name = "<init>" ∧ Cond.instanceMethod (ab_my M') ∈ hb_TB ∧ ab_mr M' = none)) := by
  intro ix sort y na ci h M _ hcl
  rw [hcl]
  unfold hb_T41 at h
  split at h
  · cases h
    exact ⟨fun _ => ⟨(hb_w 1985 (by decide +kernel)), (hb_w 247 (by decide +kernel)), (hb_w 248 (by decide +kernel))⟩, fun h => absurd h (by decide), fun h => absurd h (by decide)⟩
  · cases h
theorem hb_T42_ok (O : Nat → Option String) (X : ab_X) : ∀ (ix sort y na ci : Nat), hb_T42 ix = some (sort, y, na, ci) → ∀ M : ab_MI, ab_mo M = 42 → (ab_my M).cls = RJxc12de →
    (sort = 4 → Cond.methodLink (ab_my M).cls ix objectInit ∈ hb_TB ∧ Cond.instanceMethod objectInit ∈ hb_TB ∧ Cond.code objectInit ⟨#[0xb1]⟩ 1 none ∈ hb_TB) ∧
    (sort = 5 → Cond.methodLink (ab_my M).cls ix arraycopyName ∈ hb_TB ∧ Cond.native arraycopyName ∈ hb_TB ∧ Cond.static arraycopyName ∈ hb_TB ∧ Cond.initialized "java/lang/System" ∈ hb_TB) ∧
    (sort < 4 ∨ sort = 6 → ∀ M' : ab_MI, ab_gM (hb_Gx O X) y = some M' → (sort ≠ 3 → Cond.methodLink (ab_my M).cls ix (ab_my M') ∈ hb_TB) ∧ Cond.initialized (ab_my M').cls ∈ hb_TB ∧ ((ab_my M').cls ≠ "java/lang/invoke/MethodHandle" ∧ (ab_my M').cls ≠ "java/lang/invoke/VarHandle" ∧ (parseMethodDescriptor (ab_my M').desc).map (fun d => d.parameters.length) = some na) ∧
      (sort = 0 → Cond.instanceMethod (ab_my M') ∈ hb_TB ∧ Cond.selects (ab_my M').cls (ab_my M') (ab_my M') ∈ hb_TB ∧ ∃ q : vw_C, (ab_gK (hb_Gx O X))[ci]? = some q ∧ q.1 = (ab_my M').cls) ∧
      (sort = 1 → Cond.static (ab_my M') ∈ hb_TB) ∧
      (sort = 6 → Cond.instanceMethod (ab_my M') ∈ hb_TB ∧ Cond.selects (ab_my M').cls (ab_my M') (ab_my M') ∈ hb_TB ∧ (ab_my M').cls = "java/lang/String") ∧
      (sort = 2 ∨ sort = 3 → (ab_my M').name = "<init>" ∧ Cond.instanceMethod (ab_my M') ∈ hb_TB ∧ ab_mr M' = none)) := by
  intro ix sort y na ci h M _ hcl
  rw [hcl]
  unfold hb_T42 at h
  split at h
  · cases h
    refine ⟨fun h => absurd h (by decide), fun h => absurd h (by decide), fun _ M' hM' => ?_⟩
    obtain rfl : mJxa1e45_init_da8c8 = M' := Option.some.inj ((show ab_gM (hb_Gx O X) 10496 = some mJxa1e45_init_da8c8 from rfl).symm.trans hM')
    exact ⟨fun _ => (hb_w 1982 (by decide +kernel)), (hb_w 217 (by decide +kernel)), by decide +kernel, fun h => absurd h (by decide), fun h => absurd h (by decide), fun h => absurd h (by decide), fun _ => ⟨rfl, (hb_w 1983 (by decide +kernel)), rfl⟩⟩
  · cases h
theorem hb_T43_ok (O : Nat → Option String) (X : ab_X) : ∀ (ix sort y na ci : Nat), hb_T43 ix = some (sort, y, na, ci) → ∀ M : ab_MI, ab_mo M = 43 → (ab_my M).cls = RJx4a65c →
    (sort = 4 → Cond.methodLink (ab_my M).cls ix objectInit ∈ hb_TB ∧ Cond.instanceMethod objectInit ∈ hb_TB ∧ Cond.code objectInit ⟨#[0xb1]⟩ 1 none ∈ hb_TB) ∧
    (sort = 5 → Cond.methodLink (ab_my M).cls ix arraycopyName ∈ hb_TB ∧ Cond.native arraycopyName ∈ hb_TB ∧ Cond.static arraycopyName ∈ hb_TB ∧ Cond.initialized "java/lang/System" ∈ hb_TB) ∧
    (sort < 4 ∨ sort = 6 → ∀ M' : ab_MI, ab_gM (hb_Gx O X) y = some M' → (sort ≠ 3 → Cond.methodLink (ab_my M).cls ix (ab_my M') ∈ hb_TB) ∧ Cond.initialized (ab_my M').cls ∈ hb_TB ∧ ((ab_my M').cls ≠ "java/lang/invoke/MethodHandle" ∧ (ab_my M').cls ≠ "java/lang/invoke/VarHandle" ∧ (parseMethodDescriptor (ab_my M').desc).map (fun d => d.parameters.length) = some na) ∧
      (sort = 0 → Cond.instanceMethod (ab_my M') ∈ hb_TB ∧ Cond.selects (ab_my M').cls (ab_my M') (ab_my M') ∈ hb_TB ∧ ∃ q : vw_C, (ab_gK (hb_Gx O X))[ci]? = some q ∧ q.1 = (ab_my M').cls) ∧
      (sort = 1 → Cond.static (ab_my M') ∈ hb_TB) ∧
      (sort = 6 → Cond.instanceMethod (ab_my M') ∈ hb_TB ∧ Cond.selects (ab_my M').cls (ab_my M') (ab_my M') ∈ hb_TB ∧ (ab_my M').cls = "java/lang/String") ∧
      (sort = 2 ∨ sort = 3 → (ab_my M').name = "<init>" ∧ Cond.instanceMethod (ab_my M') ∈ hb_TB ∧ ab_mr M' = none)) := by
  intro ix sort y na ci h M _ hcl
  rw [hcl]
  unfold hb_T43 at h
  split at h
  · cases h
    refine ⟨fun h => absurd h (by decide), fun h => absurd h (by decide), fun _ M' hM' => ?_⟩
    obtain rfl : mJxc12de_init_da8c8 = M' := Option.some.inj ((show ab_gM (hb_Gx O X) 10752 = some mJxc12de_init_da8c8 from rfl).symm.trans hM')
    exact ⟨fun _ => (hb_w 1979 (by decide +kernel)), (hb_w 218 (by decide +kernel)), by decide +kernel, fun h => absurd h (by decide), fun h => absurd h (by decide), fun h => absurd h (by decide), fun _ => ⟨rfl, (hb_w 1980 (by decide +kernel)), rfl⟩⟩
  · cases h
    refine ⟨fun h => absurd h (by decide), fun h => absurd h (by decide), fun _ M' hM' => ?_⟩
    obtain rfl : mJ7_copyOf_1904c = M' := Option.some.inj ((show ab_gM (hb_Gx O X) 11266 = some mJ7_copyOf_1904c from rfl).symm.trans hM')
    exact ⟨fun _ => (hb_w 2885 (by decide +kernel)), (hb_w 207 (by decide +kernel)), by decide +kernel, fun h => absurd h (by decide), fun _ => (hb_w 2886 (by decide +kernel)), fun h => absurd h (by decide), fun h => absurd h (by decide)⟩
  · cases h
    refine ⟨fun h => absurd h (by decide), fun h => absurd h (by decide), fun _ M' hM' => ?_⟩
    obtain rfl : mJx4a65c_grow_92f84 = M' := Option.some.inj ((show ab_gM (hb_Gx O X) 11009 = some mJx4a65c_grow_92f84 from rfl).symm.trans hM')
    exact ⟨fun _ => (hb_w 2873 (by decide +kernel)), (hb_w 219 (by decide +kernel)), by decide +kernel, fun _ => ⟨(hb_w 2875 (by decide +kernel)), (hb_w 137 (by decide +kernel)), _, rfl, rfl⟩, fun h => absurd h (by decide), fun h => absurd h (by decide), fun h => absurd h (by decide)⟩
  · cases h
    refine ⟨fun h => absurd h (by decide), fun h => absurd h (by decide), fun _ M' hM' => ?_⟩
    obtain rfl : mJ8_newLength_cabcc = M' := Option.some.inj ((show ab_gM (hb_Gx O X) 12800 = some mJ8_newLength_cabcc from rfl).symm.trans hM')
    exact ⟨fun _ => (hb_w 2877 (by decide +kernel)), (hb_w 237 (by decide +kernel)), by decide +kernel, fun h => absurd h (by decide), fun _ => (hb_w 2878 (by decide +kernel)), fun h => absurd h (by decide), fun h => absurd h (by decide)⟩
  · cases h
    refine ⟨fun h => absurd h (by decide), fun h => absurd h (by decide), fun _ M' hM' => ?_⟩
    obtain rfl : mJ9_max_7cf53 = M' := Option.some.inj ((show ab_gM (hb_Gx O X) 9216 = some mJ9_max_7cf53 from rfl).symm.trans hM')
    exact ⟨fun _ => (hb_w 2926 (by decide +kernel)), (hb_w 231 (by decide +kernel)), by decide +kernel, fun h => absurd h (by decide), fun _ => (hb_w 1059 (by decide +kernel)), fun h => absurd h (by decide), fun h => absurd h (by decide)⟩
  · cases h
    refine ⟨fun h => absurd h (by decide), fun h => absurd h (by decide), fun _ M' hM' => ?_⟩
    obtain rfl : mJ15_checkIndex_7cf53 = M' := Option.some.inj ((show ab_gM (hb_Gx O X) 12032 = some mJ15_checkIndex_7cf53 from rfl).symm.trans hM')
    exact ⟨fun _ => (hb_w 2932 (by decide +kernel)), (hb_w 238 (by decide +kernel)), by decide +kernel, fun h => absurd h (by decide), fun _ => (hb_w 2933 (by decide +kernel)), fun h => absurd h (by decide), fun h => absurd h (by decide)⟩
  · cases h
    refine ⟨fun h => absurd h (by decide), fun h => absurd h (by decide), fun _ M' hM' => ?_⟩
    obtain rfl : mJx4a65c_elementData_915e3 = M' := Option.some.inj ((show ab_gM (hb_Gx O X) 11012 = some mJx4a65c_elementData_915e3 from rfl).symm.trans hM')
    exact ⟨fun _ => (hb_w 2936 (by decide +kernel)), (hb_w 219 (by decide +kernel)), by decide +kernel, fun _ => ⟨(hb_w 2937 (by decide +kernel)), (hb_w 2938 (by decide +kernel)), _, rfl, rfl⟩, fun h => absurd h (by decide), fun h => absurd h (by decide), fun h => absurd h (by decide)⟩
  · cases h
    refine ⟨fun h => absurd h (by decide), fun h => absurd h (by decide), fun _ M' hM' => ?_⟩
    obtain rfl : mJx4a65c_grow_d5877 = M' := Option.some.inj ((show ab_gM (hb_Gx O X) 11010 = some mJx4a65c_grow_d5877 from rfl).symm.trans hM')
    exact ⟨fun _ => (hb_w 2869 (by decide +kernel)), (hb_w 219 (by decide +kernel)), by decide +kernel, fun _ => ⟨(hb_w 2871 (by decide +kernel)), (hb_w 136 (by decide +kernel)), _, rfl, rfl⟩, fun h => absurd h (by decide), fun h => absurd h (by decide), fun h => absurd h (by decide)⟩
  · cases h
    refine ⟨fun h => absurd h (by decide), fun h => absurd h (by decide), fun _ M' hM' => ?_⟩
    obtain rfl : mJx4a65c_add_72be8 = M' := Option.some.inj ((show ab_gM (hb_Gx O X) 11014 = some mJx4a65c_add_72be8 from rfl).symm.trans hM')
    exact ⟨fun _ => (hb_w 2865 (by decide +kernel)), (hb_w 219 (by decide +kernel)), by decide +kernel, fun _ => ⟨(hb_w 2867 (by decide +kernel)), (hb_w 135 (by decide +kernel)), _, rfl, rfl⟩, fun h => absurd h (by decide), fun h => absurd h (by decide), fun h => absurd h (by decide)⟩
  · cases h
theorem hb_T44_ok (O : Nat → Option String) (X : ab_X) : ∀ (ix sort y na ci : Nat), hb_T44 ix = some (sort, y, na, ci) → ∀ M : ab_MI, ab_mo M = 44 → (ab_my M).cls = RJ7 →
    (sort = 4 → Cond.methodLink (ab_my M).cls ix objectInit ∈ hb_TB ∧ Cond.instanceMethod objectInit ∈ hb_TB ∧ Cond.code objectInit ⟨#[0xb1]⟩ 1 none ∈ hb_TB) ∧
    (sort = 5 → Cond.methodLink (ab_my M).cls ix arraycopyName ∈ hb_TB ∧ Cond.native arraycopyName ∈ hb_TB ∧ Cond.static arraycopyName ∈ hb_TB ∧ Cond.initialized "java/lang/System" ∈ hb_TB) ∧
    (sort < 4 ∨ sort = 6 → ∀ M' : ab_MI, ab_gM (hb_Gx O X) y = some M' → (sort ≠ 3 → Cond.methodLink (ab_my M).cls ix (ab_my M') ∈ hb_TB) ∧ Cond.initialized (ab_my M').cls ∈ hb_TB ∧ ((ab_my M').cls ≠ "java/lang/invoke/MethodHandle" ∧ (ab_my M').cls ≠ "java/lang/invoke/VarHandle" ∧ (parseMethodDescriptor (ab_my M').desc).map (fun d => d.parameters.length) = some na) ∧
      (sort = 0 → Cond.instanceMethod (ab_my M') ∈ hb_TB ∧ Cond.selects (ab_my M').cls (ab_my M') (ab_my M') ∈ hb_TB ∧ ∃ q : vw_C, (ab_gK (hb_Gx O X))[ci]? = some q ∧ q.1 = (ab_my M').cls) ∧
      (sort = 1 → Cond.static (ab_my M') ∈ hb_TB) ∧
      (sort = 6 → Cond.instanceMethod (ab_my M') ∈ hb_TB ∧ Cond.selects (ab_my M').cls (ab_my M') (ab_my M') ∈ hb_TB ∧ (ab_my M').cls = "java/lang/String") ∧
      (sort = 2 ∨ sort = 3 → (ab_my M').name = "<init>" ∧ Cond.instanceMethod (ab_my M') ∈ hb_TB ∧ ab_mr M' = none)) := by
  intro ix sort y na ci h M _ hcl
  rw [hcl]
  unfold hb_T44 at h
  split at h
  · cases h
    exact ⟨fun h => absurd h (by decide), fun _ => ⟨(hb_w 1282 (by decide +kernel)), (hb_w 1162 (by decide +kernel)), (hb_w 1161 (by decide +kernel)), (hb_w 232 (by decide +kernel))⟩, fun h => absurd h (by decide)⟩
  · cases h
    refine ⟨fun h => absurd h (by decide), fun h => absurd h (by decide), fun _ M' hM' => ?_⟩
    obtain rfl : mJ7_copyOf_6403c = M' := Option.some.inj ((show ab_gM (hb_Gx O X) 11267 = some mJ7_copyOf_6403c from rfl).symm.trans hM')
    exact ⟨fun _ => (hb_w 2920 (by decide +kernel)), (hb_w 207 (by decide +kernel)), by decide +kernel, fun h => absurd h (by decide), fun _ => (hb_w 2921 (by decide +kernel)), fun h => absurd h (by decide), fun h => absurd h (by decide)⟩
  · cases h
    refine ⟨fun h => absurd h (by decide), fun h => absurd h (by decide), fun _ M' hM' => ?_⟩
    obtain rfl : mJ9_min_7cf53 = M' := Option.some.inj ((show ab_gM (hb_Gx O X) 9217 = some mJ9_min_7cf53 from rfl).symm.trans hM')
    exact ⟨fun _ => (hb_w 1281 (by decide +kernel)), (hb_w 231 (by decide +kernel)), by decide +kernel, fun h => absurd h (by decide), fun _ => (hb_w 1112 (by decide +kernel)), fun h => absurd h (by decide), fun h => absurd h (by decide)⟩
  · cases h
theorem hb_T47_ok (O : Nat → Option String) (X : ab_X) : ∀ (ix sort y na ci : Nat), hb_T47 ix = some (sort, y, na, ci) → ∀ M : ab_MI, ab_mo M = 47 → (ab_my M).cls = RJ15 →
    (sort = 4 → Cond.methodLink (ab_my M).cls ix objectInit ∈ hb_TB ∧ Cond.instanceMethod objectInit ∈ hb_TB ∧ Cond.code objectInit ⟨#[0xb1]⟩ 1 none ∈ hb_TB) ∧
    (sort = 5 → Cond.methodLink (ab_my M).cls ix arraycopyName ∈ hb_TB ∧ Cond.native arraycopyName ∈ hb_TB ∧ Cond.static arraycopyName ∈ hb_TB ∧ Cond.initialized "java/lang/System" ∈ hb_TB) ∧
    (sort < 4 ∨ sort = 6 → ∀ M' : ab_MI, ab_gM (hb_Gx O X) y = some M' → (sort ≠ 3 → Cond.methodLink (ab_my M).cls ix (ab_my M') ∈ hb_TB) ∧ Cond.initialized (ab_my M').cls ∈ hb_TB ∧ ((ab_my M').cls ≠ "java/lang/invoke/MethodHandle" ∧ (ab_my M').cls ≠ "java/lang/invoke/VarHandle" ∧ (parseMethodDescriptor (ab_my M').desc).map (fun d => d.parameters.length) = some na) ∧
      (sort = 0 → Cond.instanceMethod (ab_my M') ∈ hb_TB ∧ Cond.selects (ab_my M').cls (ab_my M') (ab_my M') ∈ hb_TB ∧ ∃ q : vw_C, (ab_gK (hb_Gx O X))[ci]? = some q ∧ q.1 = (ab_my M').cls) ∧
      (sort = 1 → Cond.static (ab_my M') ∈ hb_TB) ∧
      (sort = 6 → Cond.instanceMethod (ab_my M') ∈ hb_TB ∧ Cond.selects (ab_my M').cls (ab_my M') (ab_my M') ∈ hb_TB ∧ (ab_my M').cls = "java/lang/String") ∧
      (sort = 2 ∨ sort = 3 → (ab_my M').name = "<init>" ∧ Cond.instanceMethod (ab_my M') ∈ hb_TB ∧ ab_mr M' = none)) := by
  intro ix sort y na ci h M _ hcl
  rw [hcl]
  unfold hb_T47 at h
  split at h
  · cases h
    refine ⟨fun h => absurd h (by decide), fun h => absurd h (by decide), fun _ M' hM' => ?_⟩
    obtain rfl : mJ3_checkIndex_8e157 = M' := Option.some.inj ((show ab_gM (hb_Gx O X) 13056 = some mJ3_checkIndex_8e157 from rfl).symm.trans hM')
    exact ⟨fun _ => (hb_w 2935 (by decide +kernel)), (hb_w 204 (by decide +kernel)), by decide +kernel, fun h => absurd h (by decide), fun _ => (hb_w 443 (by decide +kernel)), fun h => absurd h (by decide), fun h => absurd h (by decide)⟩
  · cases h
theorem hb_T50_ok (O : Nat → Option String) (X : ab_X) : ∀ (ix sort y na ci : Nat), hb_T50 ix = some (sort, y, na, ci) → ∀ M : ab_MI, ab_mo M = 50 → (ab_my M).cls = RJ8 →
    (sort = 4 → Cond.methodLink (ab_my M).cls ix objectInit ∈ hb_TB ∧ Cond.instanceMethod objectInit ∈ hb_TB ∧ Cond.code objectInit ⟨#[0xb1]⟩ 1 none ∈ hb_TB) ∧
    (sort = 5 → Cond.methodLink (ab_my M).cls ix arraycopyName ∈ hb_TB ∧ Cond.native arraycopyName ∈ hb_TB ∧ Cond.static arraycopyName ∈ hb_TB ∧ Cond.initialized "java/lang/System" ∈ hb_TB) ∧
    (sort < 4 ∨ sort = 6 → ∀ M' : ab_MI, ab_gM (hb_Gx O X) y = some M' → (sort ≠ 3 → Cond.methodLink (ab_my M).cls ix (ab_my M') ∈ hb_TB) ∧ Cond.initialized (ab_my M').cls ∈ hb_TB ∧ ((ab_my M').cls ≠ "java/lang/invoke/MethodHandle" ∧ (ab_my M').cls ≠ "java/lang/invoke/VarHandle" ∧ (parseMethodDescriptor (ab_my M').desc).map (fun d => d.parameters.length) = some na) ∧
      (sort = 0 → Cond.instanceMethod (ab_my M') ∈ hb_TB ∧ Cond.selects (ab_my M').cls (ab_my M') (ab_my M') ∈ hb_TB ∧ ∃ q : vw_C, (ab_gK (hb_Gx O X))[ci]? = some q ∧ q.1 = (ab_my M').cls) ∧
      (sort = 1 → Cond.static (ab_my M') ∈ hb_TB) ∧
      (sort = 6 → Cond.instanceMethod (ab_my M') ∈ hb_TB ∧ Cond.selects (ab_my M').cls (ab_my M') (ab_my M') ∈ hb_TB ∧ (ab_my M').cls = "java/lang/String") ∧
      (sort = 2 ∨ sort = 3 → (ab_my M').name = "<init>" ∧ Cond.instanceMethod (ab_my M') ∈ hb_TB ∧ ab_mr M' = none)) := by
  intro ix sort y na ci h M _ hcl
  rw [hcl]
  unfold hb_T50 at h
  split at h
  · cases h
    refine ⟨fun h => absurd h (by decide), fun h => absurd h (by decide), fun _ M' hM' => ?_⟩
    obtain rfl : mJ9_max_7cf53 = M' := Option.some.inj ((show ab_gM (hb_Gx O X) 9216 = some mJ9_max_7cf53 from rfl).symm.trans hM')
    exact ⟨fun _ => (hb_w 2880 (by decide +kernel)), (hb_w 231 (by decide +kernel)), by decide +kernel, fun h => absurd h (by decide), fun _ => (hb_w 1059 (by decide +kernel)), fun h => absurd h (by decide), fun h => absurd h (by decide)⟩
  · cases h
    refine ⟨fun h => absurd h (by decide), fun h => absurd h (by decide), fun _ M' hM' => ?_⟩
    obtain rfl : mJ8_hugeLength_7cf53 = M' := Option.some.inj ((show ab_gM (hb_Gx O X) 12801 = some mJ8_hugeLength_7cf53 from rfl).symm.trans hM')
    exact ⟨fun _ => (hb_w 2882 (by decide +kernel)), (hb_w 237 (by decide +kernel)), by decide +kernel, fun h => absurd h (by decide), fun _ => (hb_w 2883 (by decide +kernel)), fun h => absurd h (by decide), fun h => absurd h (by decide)⟩
  · cases h
theorem hb_T51_ok (O : Nat → Option String) (X : ab_X) : ∀ (ix sort y na ci : Nat), hb_T51 ix = some (sort, y, na, ci) → ∀ M : ab_MI, ab_mo M = 51 → (ab_my M).cls = RJ3 →
    (sort = 4 → Cond.methodLink (ab_my M).cls ix objectInit ∈ hb_TB ∧ Cond.instanceMethod objectInit ∈ hb_TB ∧ Cond.code objectInit ⟨#[0xb1]⟩ 1 none ∈ hb_TB) ∧
    (sort = 5 → Cond.methodLink (ab_my M).cls ix arraycopyName ∈ hb_TB ∧ Cond.native arraycopyName ∈ hb_TB ∧ Cond.static arraycopyName ∈ hb_TB ∧ Cond.initialized "java/lang/System" ∈ hb_TB) ∧
    (sort < 4 ∨ sort = 6 → ∀ M' : ab_MI, ab_gM (hb_Gx O X) y = some M' → (sort ≠ 3 → Cond.methodLink (ab_my M).cls ix (ab_my M') ∈ hb_TB) ∧ Cond.initialized (ab_my M').cls ∈ hb_TB ∧ ((ab_my M').cls ≠ "java/lang/invoke/MethodHandle" ∧ (ab_my M').cls ≠ "java/lang/invoke/VarHandle" ∧ (parseMethodDescriptor (ab_my M').desc).map (fun d => d.parameters.length) = some na) ∧
      (sort = 0 → Cond.instanceMethod (ab_my M') ∈ hb_TB ∧ Cond.selects (ab_my M').cls (ab_my M') (ab_my M') ∈ hb_TB ∧ ∃ q : vw_C, (ab_gK (hb_Gx O X))[ci]? = some q ∧ q.1 = (ab_my M').cls) ∧
      (sort = 1 → Cond.static (ab_my M') ∈ hb_TB) ∧
      (sort = 6 → Cond.instanceMethod (ab_my M') ∈ hb_TB ∧ Cond.selects (ab_my M').cls (ab_my M') (ab_my M') ∈ hb_TB ∧ (ab_my M').cls = "java/lang/String") ∧
      (sort = 2 ∨ sort = 3 → (ab_my M').name = "<init>" ∧ Cond.instanceMethod (ab_my M') ∈ hb_TB ∧ ab_mr M' = none)) := by
  intro ix sort y na ci h M _ hcl
  rw [hcl]
  unfold hb_T51 at h
  split at h
  · cases h

/-- what an instruction does to the locals and the stack -/
def ab_s2 (nL : Nat) : Instr → Nat → ab_L → List Value → Option (ab_L × List Value)
  | .iload_n n, 1, lv, r => match ab_at lv (n : Nat) with
    | some (.int x) => some (lv, .int x :: r)
    | _ => none
  | .iload n, 2, lv, r => match ab_at lv n with
    | some (.int x) => some (lv, .int x :: r)
    | _ => none
  | .lload_n n, 1, lv, r => match ab_at lv (n : Nat) with
    | some (.long x) => some (lv, .long x :: r)
    | _ => none
  | .lload n, 2, lv, r => match ab_at lv n with
    | some (.long x) => some (lv, .long x :: r)
    | _ => none
  | .aload_n n, 1, lv, r => match ab_at lv (n : Nat) with
    | some (.ref x) => some (lv, .ref x :: r)
    | some .null => some (lv, .null :: r)
    | some (.retAddr x) => some (lv, .retAddr x :: r)
    | _ => none
  | .aload n, 2, lv, r => match ab_at lv n with
    | some (.ref x) => some (lv, .ref x :: r)
    | some .null => some (lv, .null :: r)
    | some (.retAddr x) => some (lv, .retAddr x :: r)
    | _ => none
  | .istore_n n, 1, lv, .int x :: r => if (n : Nat) < nL then some (ab_st1 lv (n : Nat) (.int x), r) else none
  | .istore n, 2, lv, .int x :: r => if n < nL then some (ab_st1 lv n (.int x), r) else none
  | .lstore_n n, 1, lv, .long x :: r => if (n : Nat) + 1 < nL then some (ab_st2 lv (n : Nat) (.long x), r) else none
  | .lstore n, 2, lv, .long x :: r => if n + 1 < nL then some (ab_st2 lv n (.long x), r) else none
  | .astore_n n, 1, lv, .ref x :: r => if (n : Nat) < nL then some (ab_st1 lv (n : Nat) (.ref x), r) else none
  | .astore_n n, 1, lv, .null :: r => if (n : Nat) < nL then some (ab_st1 lv (n : Nat) (.null), r) else none
  | .astore_n n, 1, lv, .retAddr x :: r => if (n : Nat) < nL then some (ab_st1 lv (n : Nat) (.retAddr x), r) else none
  | .astore n, 2, lv, .ref x :: r => if n < nL then some (ab_st1 lv n (.ref x), r) else none
  | .astore n, 2, lv, .null :: r => if n < nL then some (ab_st1 lv n (.null), r) else none
  | .astore n, 2, lv, .retAddr x :: r => if n < nL then some (ab_st1 lv n (.retAddr x), r) else none
  | .iinc n d, 3, lv, r => match ab_at lv n with
    | some (.int x) => if n < nL then some (ab_st1 lv n (.int (x + Int32.ofInt d)), r) else none
    | _ => none
  | _, _, _, _ => none
section AB2
variable {p : Program} {l : Launch} {e : Env} {R : Room} {s : State} {m : MethodId} {args : Array Value} {below : List Frame} {meth : Method} {c : Code} {H : Heap} {locs : List Loc} {cells slots : Nat} {Q : State → Prop}
variable {cc : ByteArray} {pc : Nat} {ls : Array Slot} {B : Nat × (Nat → Nat)}
set_option maxHeartbeats 4000000 in
theorem ab_s2_ok (hx : p.tables.exec = Jvm.exec) (hb : c.code = cc) {nL : Nat} {i : Instr} {k : Nat} {lv lv' : ab_L} {st st' : List Value} (hdg : decode cc pc = .ok (i, k)) (hs : ab_s2 nL i k lv st = some (lv', st')) (hl : lv_has ls nL (ab_rlL B lv))
    (K : ∀ ls' : Array Slot, lv_has ls' nL (ab_rlL B lv') → W p l e R s m args below meth c H locs cells slots Q (F0 m (pc + k) ls' (st'.map (ab_rl B)))) : W p l e R s m args below meth c H locs cells slots Q (F0 m pc ls (st.map (ab_rl B))) := by
  unfold ab_s2 at hs
  split at hs
  · split at hs
    · rename_i hv
      cases hs
      exact lv_iload_n hx hb hdg rfl (ab_at_has hl hv) (K ls hl)
    · cases hs
  · split at hs
    · rename_i hv
      cases hs
      exact lv_iload hx hb hdg (ab_at_has hl hv) (K ls hl)
    · cases hs
  · split at hs
    · rename_i hv
      cases hs
      exact lv_lload_n hx hb hdg rfl (ab_at_has hl hv) (K ls hl)
    · cases hs
  · split at hs
    · rename_i hv
      cases hs
      exact lv_lload hx hb hdg (ab_at_has hl hv) (K ls hl)
    · cases hs
  · split at hs
    · rename_i hv
      cases hs
      exact lv_aload_n hx hb hdg rfl (ab_at_has hl hv) (K ls hl)
    · rename_i hv
      cases hs
      exact lv_aload_nN hx hb hdg rfl (ab_at_has hl hv) (K ls hl)
    · rename_i hv
      cases hs
      exact lv_aload_n hx hb hdg rfl (ab_at_has hl hv) (K ls hl)
    · cases hs
  · split at hs
    · rename_i hv
      cases hs
      exact lv_aload hx hb hdg (ab_at_has hl hv) (K ls hl)
    · rename_i hv
      cases hs
      exact lv_aloadN hx hb hdg (ab_at_has hl hv) (K ls hl)
    · rename_i hv
      cases hs
      exact lv_aload hx hb hdg (ab_at_has hl hv) (K ls hl)
    · cases hs
  · split at hs
    · rename_i hn
      cases hs
      exact lv_istore_n hx hb hdg rfl hl hn (ab_st1_rl B _ _ (.int _)) K
    · cases hs
  · split at hs
    · rename_i hn
      cases hs
      exact lv_istore hx hb hdg hl hn (ab_st1_rl B _ _ (.int _)) K
    · cases hs
  · split at hs
    · rename_i hn
      cases hs
      exact lv_lstore_n hx hb hdg rfl hl hn (ab_st2_rl B _ _ (.long _)) K
    · cases hs
  · split at hs
    · rename_i hn
      cases hs
      exact lv_lstore hx hb hdg hl hn (ab_st2_rl B _ _ (.long _)) K
    · cases hs
  · split at hs
    · rename_i hn
      cases hs
      exact lv_astore_n hx hb hdg rfl hl hn (ab_st1_rl B _ _ (.ref _)) K
    · cases hs
  · split at hs
    · rename_i hn
      cases hs
      exact lv_astore_nN hx hb hdg rfl hl hn (ab_st1_rl B _ _ (.null)) K
    · cases hs
  · split at hs
    · rename_i hn
      cases hs
      exact lv_astore_n hx hb hdg rfl hl hn (ab_st1_rl B _ _ (.retAddr _)) K
    · cases hs
  · split at hs
    · rename_i hn
      cases hs
      exact lv_astore hx hb hdg hl hn (ab_st1_rl B _ _ (.ref _)) K
    · cases hs
  · split at hs
    · rename_i hn
      cases hs
      exact lv_astoreN hx hb hdg hl hn (ab_st1_rl B _ _ (.null)) K
    · cases hs
  · split at hs
    · rename_i hn
      cases hs
      exact lv_astore hx hb hdg hl hn (ab_st1_rl B _ _ (.retAddr _)) K
    · cases hs
  · split at hs
    · rename_i hv
      split at hs
      · rename_i hn
        cases hs
        obtain ⟨q, hq⟩ := ab_at_place hv
        exact lv_iinc hx hb hdg hl (k := q) (by show (lv.map _)[q]? = _; rw [List.getElem?_map, hq]; rfl) rfl hn (ab_st1_rl B _ _ (.int _)) K
      · cases hs
    · cases hs
  · cases hs
end AB2
/-- jumps: where it goes on, and the stack -/
def ab_s3 : Instr → Nat → Nat → List Value → Option (Nat × List Value)
  | .goto off, 3, pc, r => (ab_t pc off).map (fun t => (t, r))
  | .ifCond .eq off, 3, pc, .int x :: r => (ab_t pc off).bind (fun t => if x = 0 then some (t, r) else some (pc + 3, r))
  | .ifCond .ne off, 3, pc, .int x :: r => (ab_t pc off).bind (fun t => if ¬ x = 0 then some (t, r) else some (pc + 3, r))
  | .ifCond .lt off, 3, pc, .int x :: r => (ab_t pc off).bind (fun t => if x < 0 then some (t, r) else some (pc + 3, r))
  | .ifCond .ge off, 3, pc, .int x :: r => (ab_t pc off).bind (fun t => if 0 ≤ x then some (t, r) else some (pc + 3, r))
  | .ifCond .gt off, 3, pc, .int x :: r => (ab_t pc off).bind (fun t => if 0 < x then some (t, r) else some (pc + 3, r))
  | .ifCond .le off, 3, pc, .int x :: r => (ab_t pc off).bind (fun t => if x ≤ 0 then some (t, r) else some (pc + 3, r))
  | .if_icmp .eq off, 3, pc, .int y :: .int x :: r => (ab_t pc off).bind (fun t => if x = y then some (t, r) else some (pc + 3, r))
  | .if_icmp .ne off, 3, pc, .int y :: .int x :: r => (ab_t pc off).bind (fun t => if ¬ x = y then some (t, r) else some (pc + 3, r))
  | .if_icmp .lt off, 3, pc, .int y :: .int x :: r => (ab_t pc off).bind (fun t => if x < y then some (t, r) else some (pc + 3, r))
  | .if_icmp .ge off, 3, pc, .int y :: .int x :: r => (ab_t pc off).bind (fun t => if y ≤ x then some (t, r) else some (pc + 3, r))
  | .if_icmp .gt off, 3, pc, .int y :: .int x :: r => (ab_t pc off).bind (fun t => if y < x then some (t, r) else some (pc + 3, r))
  | .if_icmp .le off, 3, pc, .int y :: .int x :: r => (ab_t pc off).bind (fun t => if x ≤ y then some (t, r) else some (pc + 3, r))
  | .ifnull _, 3, pc, .ref _ :: r => some (pc + 3, r)
  | .ifnull off, 3, pc, .null :: r => (ab_t pc off).map (fun t => (t, r))
  | .ifnull _, 3, pc, .retAddr _ :: r => some (pc + 3, r)
  | .ifnonnull off, 3, pc, .ref _ :: r => (ab_t pc off).map (fun t => (t, r))
  | .ifnonnull _, 3, pc, .null :: r => some (pc + 3, r)
  | .ifnonnull off, 3, pc, .retAddr _ :: r => (ab_t pc off).map (fun t => (t, r))
  | .tableswitch dflt lo hi offs, _, pc, .int x :: r => if x.toInt < lo ∨ hi < x.toInt then (ab_t pc dflt).map (fun t => (t, r)) else match offs[(x.toInt - lo).toNat]? with
    | some off => (ab_t pc off).map (fun t => (t, r))
    | none => none
  | .lookupswitch dflt ps, _, pc, .int x :: r => if (ps.toList.zip (ps.toList.drop 1)).all (fun (a, next) => a.1 < next.1) = true then (ab_t pc (Op.lookupswitch.offset ps.toList dflt x.toInt)).map (fun t => (t, r)) else none
  | _, _, _, _ => none
theorem ab_t_map {pc t : Nat} {off : Int} {r st : List Value} (h : (ab_t pc off).map (fun t => (t, r)) = some (t, st)) : (pc : Int) + off = (t : Int) ∧ r = st := by
  obtain ⟨q, h1, h2⟩ := Option.map_eq_some_iff.mp h
  cases h2
  exact ⟨ab_t_ok h1, rfl⟩
section AB3
variable {p : Program} {l : Launch} {e : Env} {R : Room} {s : State} {m : MethodId} {args : Array Value} {below : List Frame} {meth : Method} {c : Code} {H : Heap} {locs : List Loc} {cells slots : Nat} {Q : State → Prop}
variable {cc : ByteArray} {pc : Nat} {ls : Array Slot} {B : Nat × (Nat → Nat)}
set_option maxHeartbeats 4000000 in
theorem ab_s3_ok (hx : p.tables.exec = Jvm.exec) (hb : c.code = cc) {i : Instr} {k t : Nat} {st st' : List Value} (hdg : decode cc pc = .ok (i, k)) (hs : ab_s3 i k pc st = some (t, st'))
    (K : W p l e R s m args below meth c H locs cells slots Q (F0 m t ls (st'.map (ab_rl B)))) : W p l e R s m args below meth c H locs cells slots Q (F0 m pc ls (st.map (ab_rl B))) := by
  unfold ab_s3 at hs
  split at hs
  · obtain ⟨ht, rfl⟩ := ab_t_map hs
    exact lv_goto hx hb hdg ht K
  · obtain ⟨t9, h1, h2⟩ := Option.bind_eq_some_iff.mp hs
    refine lv_if_eq hx hb hdg (ab_t_ok h1) (fun hc => ?_) (fun hc => ?_)
    · rw [if_pos hc] at h2
      cases h2
      exact K
    · rw [if_neg hc] at h2
      cases h2
      exact K
  · obtain ⟨t9, h1, h2⟩ := Option.bind_eq_some_iff.mp hs
    refine lv_if_ne hx hb hdg (ab_t_ok h1) (fun hc => ?_) (fun hc => ?_)
    · rw [if_pos hc] at h2
      cases h2
      exact K
    · rw [if_neg (not_not_intro hc)] at h2
      cases h2
      exact K
  · obtain ⟨t9, h1, h2⟩ := Option.bind_eq_some_iff.mp hs
    refine lv_if_lt hx hb hdg (ab_t_ok h1) (fun hc => ?_) (fun hc => ?_)
    · rw [if_pos hc] at h2
      cases h2
      exact K
    · rw [if_neg hc] at h2
      cases h2
      exact K
  · obtain ⟨t9, h1, h2⟩ := Option.bind_eq_some_iff.mp hs
    refine lv_if_ge hx hb hdg (ab_t_ok h1) (fun hc => ?_) (fun hc => ?_)
    · rw [if_pos hc] at h2
      cases h2
      exact K
    · rw [if_neg hc] at h2
      cases h2
      exact K
  · obtain ⟨t9, h1, h2⟩ := Option.bind_eq_some_iff.mp hs
    refine lv_if_gt hx hb hdg (ab_t_ok h1) (fun hc => ?_) (fun hc => ?_)
    · rw [if_pos hc] at h2
      cases h2
      exact K
    · rw [if_neg hc] at h2
      cases h2
      exact K
  · obtain ⟨t9, h1, h2⟩ := Option.bind_eq_some_iff.mp hs
    refine lv_if_le hx hb hdg (ab_t_ok h1) (fun hc => ?_) (fun hc => ?_)
    · rw [if_pos hc] at h2
      cases h2
      exact K
    · rw [if_neg hc] at h2
      cases h2
      exact K
  · obtain ⟨t9, h1, h2⟩ := Option.bind_eq_some_iff.mp hs
    refine lv_icmp_eq hx hb hdg (ab_t_ok h1) (fun hc => ?_) (fun hc => ?_)
    · rw [if_pos hc] at h2
      cases h2
      exact K
    · rw [if_neg hc] at h2
      cases h2
      exact K
  · obtain ⟨t9, h1, h2⟩ := Option.bind_eq_some_iff.mp hs
    refine lv_icmp_ne hx hb hdg (ab_t_ok h1) (fun hc => ?_) (fun hc => ?_)
    · rw [if_pos hc] at h2
      cases h2
      exact K
    · rw [if_neg (not_not_intro hc)] at h2
      cases h2
      exact K
  · obtain ⟨t9, h1, h2⟩ := Option.bind_eq_some_iff.mp hs
    refine lv_icmp_lt hx hb hdg (ab_t_ok h1) (fun hc => ?_) (fun hc => ?_)
    · rw [if_pos hc] at h2
      cases h2
      exact K
    · rw [if_neg hc] at h2
      cases h2
      exact K
  · obtain ⟨t9, h1, h2⟩ := Option.bind_eq_some_iff.mp hs
    refine lv_icmp_ge hx hb hdg (ab_t_ok h1) (fun hc => ?_) (fun hc => ?_)
    · rw [if_pos hc] at h2
      cases h2
      exact K
    · rw [if_neg hc] at h2
      cases h2
      exact K
  · obtain ⟨t9, h1, h2⟩ := Option.bind_eq_some_iff.mp hs
    refine lv_icmp_gt hx hb hdg (ab_t_ok h1) (fun hc => ?_) (fun hc => ?_)
    · rw [if_pos hc] at h2
      cases h2
      exact K
    · rw [if_neg hc] at h2
      cases h2
      exact K
  · obtain ⟨t9, h1, h2⟩ := Option.bind_eq_some_iff.mp hs
    refine lv_icmp_le hx hb hdg (ab_t_ok h1) (fun hc => ?_) (fun hc => ?_)
    · rw [if_pos hc] at h2
      cases h2
      exact K
    · rw [if_neg hc] at h2
      cases h2
      exact K
  · cases hs
    exact lv_ifnull hx hb hdg K
  · obtain ⟨ht, rfl⟩ := ab_t_map hs
    exact lv_ifnullN hx hb hdg ht K
  · cases hs
    exact lv_ifnull hx hb hdg K
  · obtain ⟨ht, rfl⟩ := ab_t_map hs
    exact lv_ifnonnull hx hb hdg ht K
  · cases hs
    exact lv_ifnonnullN hx hb hdg K
  · obtain ⟨ht, rfl⟩ := ab_t_map hs
    exact lv_ifnonnull hx hb hdg ht K
  · split at hs
    · rename_i hc
      obtain ⟨ht, rfl⟩ := ab_t_map hs
      exact lv_tableOut hx hb hdg hc ht K
    · rename_i hc
      split at hs
      · rename_i ho
        obtain ⟨ht, rfl⟩ := ab_t_map hs
        exact lv_tableIn hx hb hdg (fun h => hc (Or.inl h)) (fun h => hc (Or.inr h)) ho ht K
      · cases hs
  · split at hs
    · rename_i hc
      obtain ⟨ht, rfl⟩ := ab_t_map hs
      exact lv_lookup hx hb hdg hc rfl ht K
    · cases hs
  · cases hs
end AB3

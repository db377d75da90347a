/-! THE CLASS: the machine's stack, what is given, layers -/
section STACK
variable {Z : zT} {d A u : Nat} {σ σ0 τ υ : Sg} {K : kS} {W : Wld} {stk args : List Int64} {x : Int64} {on : List Nat} {l : Nat}
/-- what lies on the stack -/
def StkS (stk : List Int64) (σ : Sg) : Prop := (σ.i 83 5 = Int32.ofNat stk.length ∧ stk.length ≤ 2048) ∧ ∀ (i : Nat) y, stk[i]? = some y → σ.l 93 i = y
/-- what the stack may write -/
def SkM (σ τ : Sg) : Prop := XF (fun a => a = 83 ∨ a = 93) σ τ ∧ (∀ j, j ≠ 5 → τ.i 83 j = σ.i 83 j) ∧ τ.l 83 = σ.l 83
theorem SkM.refl (σ : Sg) : SkM σ σ := ⟨XF.refl _ _, fun _ _ => rfl, rfl⟩
theorem SkM.tr (h : SkM σ τ) (g : SkM τ υ) : SkM σ υ := ⟨h.1.tr g.1, fun j q => (g.2.1 j q).trans (h.2.1 j q), g.2.2.trans h.2.2⟩
theorem cl_push (F : FX ΦC σ.sh σ.r) (h : StkS stk σ) (hl : stk.length < 2048) (kk : ∀ τ, SkM σ τ → StkS (stk ++ [x]) τ → (∀ j, j < stk.length → τ.l 93 j = σ.l 93 j) → K (.inl none) τ) : C_X4_push_0 Z (d + 1) σ x K := by
  obtain ⟨⟨h1, h2⟩, h3⟩ := h
  refine T_X4_push_0 F ?_
  rw [h1, show (2048 : Int32) ≤ Int32.ofNat stk.length ↔ 2048 ≤ stk.length from oN_le (a := 2048) (by decide) (by omega), oN_t (by omega), oN_1]
  refine ⟨fun z => absurd z (by omega), fun _ => ⟨ib_oN hl (by decide), kk _ ⟨((XF.refl _ _).wl (by omega)).wi (by omega), fun j q => wi_ne (by omega), funext fun j => wl_ne (by omega)⟩ ⟨⟨?_, ?_⟩, fun i y hy => ?_⟩ (fun j hj => wl_ne (by omega))⟩⟩
  · rw [wi_at, List.length_append, List.length_singleton]
  · rw [List.length_append, List.length_singleton]
    omega
  · rw [wi_l]
    by_cases q : i < stk.length
    · rw [List.getElem?_append_left q] at hy
      rw [wl_ne (by omega)]
      exact h3 i y hy
    · rw [List.getElem?_append_right (by omega)] at hy
      have il := (List.getElem?_eq_some_iff.mp hy).1
      rw [List.length_singleton] at il
      have ie : i = stk.length := by omega
      subst ie
      rw [Nat.sub_self] at hy
      cases hy
      exact wl_eq
theorem cl_pop (F : FX ΦC σ.sh σ.r) (h : StkS (stk ++ [x]) σ) (kk : ∀ τ, SkM σ τ → StkS stk τ → τ.l 93 = σ.l 93 → K (.inl (some (.long x))) τ) : C_X4_pop_0 Z (d + 1) σ K := by
  obtain ⟨⟨h1, h2⟩, h3⟩ := h
  rw [List.length_append, List.length_singleton] at h1 h2
  have ex : σ.l 93 stk.length = x := h3 _ _ (by rw [List.getElem?_append_right (Nat.le_refl _), Nat.sub_self]; rfl)
  have e1 : Int32.ofNat (stk.length + 1) - 1 = Int32.ofNat stk.length := oN_p1 (m := stk.length + 1) (by omega)
  refine T_X4_pop_0 F ?_
  rw [h1, e1, show (0 : Int32) < Int32.ofNat (stk.length + 1) ↔ 0 < stk.length + 1 from oN_lt (a := 0) (by decide) (by omega), oN_t (by omega), ex]
  refine ⟨fun _ => ⟨ib_oN (by omega) (by decide), kk _ ⟨(XF.refl _ _).wi (by omega), fun j q => wi_ne (by omega), rfl⟩ ⟨⟨wi_at .., by omega⟩, fun i y hy => ?_⟩ rfl⟩, fun z => absurd (by omega) z⟩
  exact h3 i y (by rw [List.getElem?_append_left (List.getElem?_eq_some_iff.mp hy).1]; exact hy)
/-- what is given is taken from the stack -/
theorem cl_takeGiven (F : FX ΦC σ.sh σ.r) (h : StkS (stk ++ args) σ) (hl : args.length ≤ 3) (kk : ∀ τ, XF (fun a => a = 83 ∨ a = 93 ∨ a = 95) σ τ → (∀ j, j ≠ 5 → τ.i 83 j = σ.i 83 j) → τ.l 83 = σ.l 83 → StkS stk τ → τ.l 93 = σ.l 93 → (∀ (i : Nat) y, args[i]? = some y → τ.l 95 i = y) → K (.inl none) τ) : C_X4_takeGiven_0 Z (d + 2) σ (Int32.ofNat args.length) K := by
  have lp : ∀ (n : Nat) (τ : Sg), n ≤ args.length → XF (fun a => a = 83 ∨ a = 93 ∨ a = 95) σ τ → (∀ j, j ≠ 5 → τ.i 83 j = σ.i 83 j) → τ.l 83 = σ.l 83 → StkS (stk ++ args.take n) τ → τ.l 93 = σ.l 93 → (∀ (i : Nat) y, n ≤ i → args[i]? = some y → τ.l 95 i = y) → C_X4_takeGiven_4 Z (d + 2) τ (Int32.ofNat n - 1) K := by
    intro n
    induction n with
    | zero =>
      intro τ _ g g6 gl hs g93 hd
      rw [List.take_zero, List.append_nil] at hs
      exact T_X4_takeGiven_4 (g.fx F) ⟨fun _ => kk τ g g6 gl hs g93 (fun i y hy => hd i y (Nat.zero_le _) hy), fun z => absurd (by decide) z⟩
    | succ n ih =>
      intro τ hn g g6 gl hs g93 hd
      have hx := List.getElem?_eq_getElem (show n < args.length by omega)
      have et : args.take (n + 1) = args.take n ++ [args[n]] := by
        rw [List.take_succ, hx]
        rfl
      rw [et, ← List.append_assoc] at hs
      have e1 : Int32.ofNat (n + 1) - 1 = Int32.ofNat n := oN_p1 (m := n + 1) (by omega)
      have em : Int32.ofNat n + (-1) = Int32.ofNat n - 1 := (Int32.sub_eq_add_neg _ _).symm
      refine T_X4_takeGiven_4 (g.fx F) ?_
      rw [e1, show Int32.ofNat n < 0 ↔ n < 0 from oN_lt (b := 0) (by omega) (by decide), em, oN_t (by omega)]
      refine ⟨fun z => absurd z (by omega), fun _ => cl_pop (g.fx F) hs (fun τ2 g2 s2 e93 => ⟨ib_oN (by omega) (by decide), ?_⟩)⟩
      have x2 : XF (fun a => a = 83 ∨ a = 93 ∨ a = 95) τ2 (τ2.wl 95 n args[n]) := (XF.refl _ _).wl (by omega)
      refine ih _ (by omega) ((g.tr (g2.1.mono (fun a q => by omega))).tr x2) (fun j hj => (g2.2.1 j hj).trans (g6 j hj)) ?_ ⟨s2.1, fun i y hy => ?_⟩ ?_ (fun i y h1 h2 => ?_)
      · rw [← gl, ← g2.2.2]
        exact funext fun j => wl_ne (by omega)
      · rw [wl_ne (by omega)]
        exact s2.2 i y hy
      · rw [← g93, ← e93]
        exact funext fun j => wl_ne (by omega)
      · by_cases q : i = n
        · subst q
          rw [hx] at h2
          cases h2
          exact wl_eq
        · rw [wl_ne (by omega), (g2.1.2.2 95 (by omega)).2]
          exact hd i y (by omega) h2
  refine T_X4_takeGiven_0 F (lp args.length σ (Nat.le_refl _) (XF.refl _ _) (fun _ _ => rfl) rfl ?_ rfl (fun i y h1 h2 => ?_))
  · rw [List.take_length]
    exact h
  · have := (List.getElem?_eq_some_iff.mp h2).1
    omega
theorem i64_or4 {e q : Nat} (he : e < 268435456) (hq : q < 16) : (Int64.ofNat e <<< (Int32.toInt64 (4 : Int32) &&& 63)) ||| Int64.ofNat q = Int64.ofNat (q + 16 * e) := by
  have := n4_or (r := q) (q := 0) (k := 1) (by omega) (by omega) (by omega)
  refine i64_e (by omega) ?_
  rw [Int64.toBitVec_or, BitVec.toNat_or, i64_nn (e := q) (by omega), Int64.toBitVec_shiftLeft]
  have key : ((Int32.toInt64 (4 : Int32) &&& 63).toBitVec.smod 64) = BitVec.ofNat 64 4 := by decide
  rw [key, BitVec.shiftLeft_eq', BitVec.toNat_shiftLeft, i64_nn (e := e) (by omega), BitVec.toNat_ofNat, Nat.mod_eq_of_lt (a := 4) (by decide), Nat.shiftLeft_eq, Nat.mod_eq_of_lt (by omega)]
  have := Nat.shiftLeft_add_eq_or_of_lt (i := 4) (show q < 2 ^ 4 by omega) e
  rw [Nat.shiftLeft_eq] at this
  rw [← this]
  omega
/-- without a layer -/
theorem cl_without (F : FX ΦC σ.sh σ.r) (h8 : W.2.2.1.length ≤ 8) (ho : LyW W on) (hl : l < 8) (kk : K (.inl (some (.long (lyE (on.filter (· ≠ l)))))) σ) : C_X4_without_0 Z (d + 1) σ (lyE on) (Int32.ofNat l) K := by
  have eb := lyE_b h8 ho
  have o8 := ho.1
  have small : ∀ i, enL ((on.reverse.drop i).filter (· ≠ l)) < 16 ^ ((on.reverse.drop i).filter (· ≠ l)).length := fun i => enL_lt _ (fun x hx => by
    have := ho.2.1 x (List.mem_reverse.mp (List.mem_of_mem_drop (List.mem_filter.mp hx).1))
    omega)
  have lp : ∀ (i : Nat), i ≤ 8 → C_X4_without_6 Z (d + 1) σ (lyE on) (Int32.ofNat l) (Int64.ofNat (enL ((on.reverse.drop i).filter (· ≠ l)))) (Int32.ofNat (4 * i) - 4) K := by
    intro i
    induction i with
    | zero =>
      intro _
      refine T_X4_without_6 F ⟨fun _ => ?_, fun z => absurd (by decide) z⟩
      rw [List.drop_zero]
      unfold lyE at kk
      rw [← List.filter_reverse] at kk
      exact kk
    | succ i ih =>
      intro hi
      have ih := ih (by omega)
      have ea := enL_at on.reverse (fun x hx => by have := ho.2.1 x (List.mem_reverse.mp hx); omega) i
      have dl : enL on.reverse / 16 ^ i ≤ enL on.reverse := Nat.div_le_self _ _
      have e4 : Int32.ofNat (4 * (i + 1)) - 4 = Int32.ofNat (4 * i) := by
        rw [show (4 : Int32) = Int32.ofNat 4 from rfl, oN_sub (by omega), show 4 * (i + 1) - 4 = 4 * i by omega]
      have em : Int32.ofNat (4 * i) + (-4) = Int32.ofNat (4 * i) - 4 := (Int32.sub_eq_add_neg _ _).symm
      have nib : (((Int64.toUInt64 (lyE on) >>> ((Int32.toInt64 (Int32.ofNat (4 * i))).toUInt64 &&& Int64.toUInt64 63)).toInt64) &&& (15 : Int64)) = Int64.ofNat (match on.reverse[i]? with | some l => l + 1 | none => 0) := by
        unfold lyE
        rw [n4_sh (by omega) (by omega), n4_and (by omega), ea]
        cases on.reverse[i]? <;> rfl
      have el : Int32.toInt64 (Int32.ofNat l + 1) = Int64.ofNat (l + 1) := by
        rw [oN_1, oN_64 (by omega)]
      have inj : ∀ a b : Nat, a < 100 → b < 100 → (Int64.ofNat a = Int64.ofNat b ↔ a = b) := fun a b ha hb => by
        constructor
        · intro q
          have := congrArg Int64.toInt q
          rw [i64_oi (by omega), i64_oi (by omega)] at this
          omega
        · intro q
          rw [q]
      refine T_X4_without_6 F ?_
      rw [e4, show Int32.ofNat (4 * i) < 0 ↔ 4 * i < 0 from oN_lt (b := 0) (by omega) (by decide), nib, el, em, cmpE, cmpE]
      refine ⟨fun z => absurd z (by omega), fun _ => ?_⟩
      by_cases hi' : i < on.reverse.length
      · have hx := List.getElem?_eq_getElem hi'
        have xb := ho.2.1 on.reverse[i] (List.mem_reverse.mp (List.getElem_mem hi'))
        have ed : on.reverse.drop i = on.reverse[i] :: on.reverse.drop (i + 1) := (List.getElem_cons_drop (h := hi')).symm
        rw [hx]
        dsimp only
        rw [show (0 : Int64) = Int64.ofNat 0 from rfl, inj _ _ (by omega) (by omega), inj _ _ (by omega) (by omega)]
        refine ⟨fun z => absurd z (by omega), fun _ => ⟨fun z => ?_, fun z => ?_⟩⟩
        · rw [ed, List.filter_cons_of_neg (p := fun x => decide (x ≠ l)) (by rw [decide_eq_true_iff]; exact fun q => q (by omega))] at ih
          exact ih
        · rw [ed, List.filter_cons_of_pos (p := fun x => decide (x ≠ l)) (decide_eq_true (show on.reverse[i] ≠ l by omega)), enL] at ih
          have sm := small (i + 1)
          have ll : ((on.reverse.drop (i + 1)).filter (· ≠ l)).length ≤ 7 := by
            refine Nat.le_trans (List.length_filter_le ..) ?_
            rw [List.length_drop, List.length_reverse]
            omega
          have sb : enL ((on.reverse.drop (i + 1)).filter (· ≠ l)) < 268435456 := Nat.lt_of_lt_of_le sm (Nat.le_trans (Nat.pow_le_pow_right (by decide) ll) (by decide))
          rw [i64_or4 sb (by omega)]
          exact ih
      · rw [List.getElem?_eq_none (by omega)]
        rw [List.drop_of_length_le (by omega)] at ih
        rw [List.drop_of_length_le (by omega)]
        exact ⟨fun _ => ih, fun z => absurd rfl z⟩
  refine T_X4_without_0 F ?_
  have := lp 8 (by omega)
  rw [List.drop_of_length_le (by rw [List.length_reverse]; omega)] at this
  exact this
end STACK

/-! THE CLASS: kinds; masks -/
theorem bt_sh : ∀ y, y < 32 → ((Int32.ofNat y &&& 31).toBitVec.smod 32).toNat = y := by decide +kernel
theorem bt_1 {k : Nat} (hk : k < 32) : BtS ((1 : Int32) <<< (Int32.ofNat k &&& 31)) [k] := fun b hb => by
  have e := bt_sh k hk
  rw [Int32.toBitVec_shiftLeft, BitVec.shiftLeft_eq', e, BitVec.getLsbD_shiftLeft]
  have e1 : (1 : Int32).toBitVec = 1#32 := rfl
  rw [e1, BitVec.getLsbD_one]
  by_cases y : b = k
  · subst y
    simp [hk]
  · have : ¬ (b ∈ [k]) := fun q => y (List.mem_singleton.mp q)
    rw [decide_eq_false this]
    by_cases z : b < k
    · simp [z]
    · have : ¬ b - k = 0 := by omega
      simp [this]
theorem bt_or {a b : Int32} {L M N : List Nat} (ha : BtS a L) (hb : BtS b M) (h : ∀ y, y ∈ N ↔ y ∈ L ∨ y ∈ M) : BtS (a ||| b) N := fun j hj => by
  rw [Int32.toBitVec_or, BitVec.getLsbD_or, ha j hj, hb j hj]
  by_cases y : j ∈ L
  · rw [decide_eq_true y, decide_eq_true ((h j).mpr (Or.inl y))]
    rfl
  · by_cases z : j ∈ M
    · rw [decide_eq_true z, decide_eq_true ((h j).mpr (Or.inr z)), Bool.or_true]
    · rw [decide_eq_false y, decide_eq_false z, decide_eq_false (fun q => ((h j).mp q).elim y z)]
      rfl
theorem bt_t {v : Int32} {L : List Nat} {y : Nat} (h : BtS v L) (hy : y < 32) : ((v >>> (Int32.ofNat y &&& 31)) &&& (1 : Int32)) = 0 ↔ y ∉ L := by
  have e := bt_sh y hy
  have key : ((v >>> (Int32.ofNat y &&& 31)) &&& (1 : Int32)).toBitVec.getLsbD 0 = decide (y ∈ L) := by
    rw [Int32.toBitVec_and, BitVec.getLsbD_and, Int32.toBitVec_shiftRight, BitVec.sshiftRight', e, BitVec.getLsbD_sshiftRight, ← h y hy]
    have e1 : (1 : Int32).toBitVec = 1#32 := rfl
    rw [e1, BitVec.getLsbD_one]
    simp [hy]
  have oth : ∀ b, 0 < b → ((v >>> (Int32.ofNat y &&& 31)) &&& (1 : Int32)).toBitVec.getLsbD b = false := fun b hb => by
    rw [Int32.toBitVec_and, BitVec.getLsbD_and]
    have e1 : (1 : Int32).toBitVec = 1#32 := rfl
    rw [e1, BitVec.getLsbD_one]
    have : ¬ b = 0 := by omega
    simp [this]
  constructor
  · intro q m
    rw [q, decide_eq_true m] at key
    cases key
  · intro m
    rw [decide_eq_false m] at key
    apply Int32.toBitVec_inj.mp
    apply BitVec.eq_of_getLsbD_eq
    intro b hb
    rw [show (0 : Int32).toBitVec = 0#32 from rfl, BitVec.getLsbD_zero]
    by_cases z : b = 0
    · rw [z]
      exact key
    · exact oth b (by omega)
theorem bt_pc {v : Int32} {L : List Nat} (h : BtS v L) (nd : L.Nodup) (hl : ∀ b ∈ L, b < 32) : pcN 32 (bN v) = L.length := pc_len nd (fun b hb => by
  have e : (bN v).testBit b = v.toBitVec.getLsbD b := rfl
  rw [e, h b hb]
  exact ⟨fun q => of_decide_eq_true q, fun q => decide_eq_true q⟩) hl
theorem BtS.cg {v : Int32} {L M : List Nat} (h : BtS v L) (e : ∀ y, y ∈ M ↔ y ∈ L) : BtS v M := fun b hb => by
  rw [h b hb]
  by_cases y : b ∈ L
  · rw [decide_eq_true y, decide_eq_true ((e b).mpr y)]
  · rw [decide_eq_false y, decide_eq_false (fun q => y ((e b).mp q))]
section KND
variable {Z : zT} {d : Nat} {σ τ υ : Sg} {K : kS} {ks : List Knd} {ps : List Nat} {k : Nat}
/-- the parents as gathered -/
def PaS (ps : List Nat) (k : Nat) (σ : Sg) : Prop := σ.i 2 4 = Int32.ofNat ps.length ∧ ps.length ≤ 24 ∧ ∀ (i : Nat) p, ps[i]? = some p → σ.i 6 i = Int32.ofNat p ∧ p < k
theorem rw_some {ks : List Knd} {p : Nat} {x : Knd} (h : ks[p]? = some x) (w : Nat) : rwW ks w p = rwK x w := by
  unfold rwW
  rw [h]
theorem rw_0 (x : Knd) : rwK x 0 = x.2.2.2.1 := rfl
theorem rw_ok {p w : Nat} (h : WK ks σ) (hp : p < ks.length) (hw : w < 3) : (rwW ks w p).Nodup ∧ (rwW ks w p).length = (rwW ks 0 p).length ∧ (∀ y, (y ∈ rwW ks w p → y ≤ p) ∧ (y ∈ rwW ks w p ↔ y ∈ rwW ks 0 p)) ∧ (rwW ks w p).length ≤ p + 1 := by
  have e : ks[p]? = some ks[p] := List.getElem?_eq_getElem hp
  obtain ⟨a, b, c⟩ := (h p _ e).2.2 w hw
  rw [rw_some e, rw_some e, rw_0]
  exact ⟨a, b, c, nd_len (p + 1) _ a (fun z hz => Nat.lt_succ_of_le ((c z).1 hz))⟩
theorem rw_at {p w : Nat} (h : WK ks σ) (hp : p < ks.length) (hw : w < 3) : σ.i 5 p = Int32.ofNat (rwW ks w p).length ∧ (∀ (i : Nat) y, (rwW ks w p)[i]? = some y → σ.i 7 ((w * 24 + p) * 24 + i) = Int32.ofNat y ∧ σ.i 8 ((w * 24 + p) * 24 + y) = Int32.ofNat i) ∧ BtS (σ.i 4 p) (rwW ks 0 p) := by
  have e : ks[p]? = some ks[p] := List.getElem?_eq_getElem hp
  obtain ⟨⟨a, b, c⟩, g⟩ := h p _ e
  rw [rw_some e, rw_some e, rw_0]
  refine ⟨?_, c w hw, a⟩
  rw [b, (g.2 w hw).2.1]
theorem rw_self {p : Nat} (h : WK ks σ) (hp : p < ks.length) : p ∈ rwW ks 0 p := by
  have e : ks[p]? = some ks[p] := List.getElem?_eq_getElem hp
  rw [rw_some e, rw_0]
  exact (h p _ e).2.1
/-- the lists of a merge -/
theorem cl_ll {j : Nat} (F : FX ΦC σ.sh σ.r) (hW : WK ks σ) (hk : ks.length = k ∧ k ≤ 24) (hP : PaS ps k σ) (l : List Nat) (hl : (ps.map (rwW ks 0) ++ [ps])[j]? = some l) (hK : K (.inl (some (.int (Int32.ofNat l.length)))) σ) : C_X2_listLength_0 Z (d + 1) σ (Int32.ofNat j) K := by
  obtain ⟨p1, p2, p3⟩ := hP
  have lj := (List.getElem?_eq_some_iff.mp hl).1
  rw [List.length_append, List.length_map, List.length_singleton] at lj
  refine T_X2_listLength_0 F ?_
  rw [p1, oN_le (by omega) (by omega), oN_t (by omega)]
  refine ⟨fun z => ?_, fun z => ?_⟩
  · have e : j = ps.length := by omega
    subst e
    rw [List.getElem?_append_right (by rw [List.length_map]; exact Nat.le_refl _), List.length_map, Nat.sub_self] at hl
    have e := Option.some.inj hl
    subst e
    exact hK
  · rw [List.getElem?_append_left (by rw [List.length_map]; omega), List.getElem?_map] at hl
    have e : ps[j]? = some ps[j] := List.getElem?_eq_getElem (by omega)
    rw [e] at hl
    have hl := Option.some.inj hl
    subst hl
    obtain ⟨q1, q2⟩ := p3 j _ e
    rw [q1, oN_t (by omega)]
    refine ⟨ib_oN (by omega) (by omega), ib_oN (by omega) (by omega), ?_⟩
    rw [(rw_at hW (by omega) (w := 0) (by decide)).1]
    exact hK
theorem cl_il {j i y : Nat} (F : FX ΦC σ.sh σ.r) (hW : WK ks σ) (hk : ks.length = k ∧ k ≤ 24) (hP : PaS ps k σ) (l : List Nat) (hl : (ps.map (rwW ks 0) ++ [ps])[j]? = some l) (hi : l[i]? = some y) (hK : K (.inl (some (.int (Int32.ofNat y)))) σ) : C_X2_inList_0 Z (d + 1) σ (Int32.ofNat j) (Int32.ofNat i) K := by
  obtain ⟨p1, p2, p3⟩ := hP
  have lj := (List.getElem?_eq_some_iff.mp hl).1
  have li := (List.getElem?_eq_some_iff.mp hi).1
  rw [List.length_append, List.length_map, List.length_singleton] at lj
  refine T_X2_inList_0 F ?_
  rw [p1, oN_le (by omega) (by omega)]
  refine ⟨fun z => ?_, fun z => ?_⟩
  · have e : j = ps.length := by omega
    subst e
    rw [List.getElem?_append_right (by rw [List.length_map]; exact Nat.le_refl _), List.length_map, Nat.sub_self] at hl
    have e := Option.some.inj hl
    subst e
    rw [oN_t (by omega), (p3 i y hi).1]
    exact ⟨ib_oN (by omega) (by omega), hK⟩
  · rw [List.getElem?_append_left (by rw [List.length_map]; omega), List.getElem?_map] at hl
    obtain ⟨p, e⟩ : ∃ p, ps[j]? = some p := ⟨_, List.getElem?_eq_getElem (by omega)⟩
    rw [e] at hl
    have hl := Option.some.inj hl
    subst hl
    obtain ⟨q1, q2⟩ := p3 j _ e
    have l25 := (rw_ok hW (p := p) (by omega) (w := 0) (by decide)).2.2.2
    rw [oN_t (show j < 2147483648 by omega), q1, show (24 : Int32) = Int32.ofNat 24 from rfl, oN_mul, oN_add, oN_t (by omega)]
    refine ⟨ib_oN (by omega) (by omega), ib_oN (by omega) (by omega), ?_⟩
    have g := ((rw_at hW (p := p) (by omega) (w := 0) (by decide)).2.1 i y hi).1
    rw [show (0 * 24 + p) * 24 + i = p * 24 + i by omega] at g
    rw [g]
    exact hK
/-- a place of a row -/
theorem cl_row {w p i y : Nat} (F : FX ΦC σ.sh σ.r) (hW : WK ks σ) (hk : p < ks.length ∧ ks.length ≤ 24) (hw : w < 3) (hi : (rwW ks w p)[i]? = some y) (hK : K (.inl (some (.int (Int32.ofNat y)))) σ) : C_X2_inRow_0 Z (d + 1) σ (Int32.ofNat w) (Int32.ofNat p) (Int32.ofNat i) K := by
  have li := (List.getElem?_eq_some_iff.mp hi).1
  have l25 := (rw_ok hW hk.1 hw).2.2.2
  refine T_X2_inRow_0 F ?_
  rw [show (24 : Int32) = Int32.ofNat 24 from rfl, oN_mul, oN_add, oN_mul, oN_add, oN_t (by omega), ((rw_at hW hk.1 hw).2.1 i y hi).1]
  exact ⟨ib_oN (by omega) (by omega), hK⟩
theorem cl_putR {w p i : Nat} {v : Int32} (F : FX ΦC σ.sh σ.r) (hp : p < 24) (hw : w < 3) (hi : i < 24) (hK : K (.inl none) (σ.wi 7 ((w * 24 + p) * 24 + i) v)) : C_X2_putInRow_0 Z (d + 1) σ (Int32.ofNat w) (Int32.ofNat p) (Int32.ofNat i) v K := by
  refine T_X2_putInRow_0 F ?_
  rw [show (24 : Int32) = Int32.ofNat 24 from rfl, oN_mul, oN_add, oN_mul, oN_add, oN_t (by omega)]
  exact ⟨ib_oN (by omega) (by omega), hK⟩
end KND

/-! THE CLASS: whether a method takes a cell's numbers -/
theorem b64_1 : ∀ b, b < 64 → tb (1 : Int64) b = decide (b = 0) := by decide +kernel
theorem b64_3 : ∀ b, b < 64 → tb (3 : Int64) b = decide (b < 2) := by decide +kernel
theorem an_1 {y : Int64} : (y &&& (1 : Int64)) = 1 ↔ tb y 0 = true := by
  constructor
  · intro h
    have := congrArg (fun z => tb z 0) h
    replace this : tb (y &&& (1 : Int64)) 0 = _ := this
    rw [tb_and, b64_1 0 (by decide)] at this
    simpa using this
  · intro h
    refine tb_ext fun b hb => ?_
    rw [tb_and, b64_1 b hb]
    by_cases e : b = 0
    · rw [e, h]
      rfl
    · rw [decide_eq_false e, Bool.and_false]
theorem an_3 {y : Int64} : (y &&& (3 : Int64)) = 3 ↔ tb y 0 = true ∧ tb y 1 = true := by
  constructor
  · intro h
    have h0 := congrArg (fun z => tb z 0) h
    have h1 := congrArg (fun z => tb z 1) h
    replace h0 : tb (y &&& (3 : Int64)) 0 = tb 3 0 := h0
    replace h1 : tb (y &&& (3 : Int64)) 1 = tb 3 1 := h1
    rw [tb_and, b64_3 0 (by decide)] at h0
    rw [tb_and, b64_3 1 (by decide)] at h1
    exact ⟨by simpa using h0, by simpa using h1⟩
  · intro h
    refine tb_ext fun b hb => ?_
    rw [tb_and, b64_3 b hb]
    by_cases e : b < 2
    · have : b = 0 ∨ b = 1 := by omega
      rcases this with rfl | rfl
      · rw [h.1]
        rfl
      · rw [h.2]
        rfl
    · rw [decide_eq_false e, Bool.and_false]
theorem an_0 {y : Int64} : (y &&& (1 : Int64)) = 0 ↔ tb y 0 = false := by
  constructor
  · intro h
    have := congrArg (fun z => tb z 0) h
    replace this : tb (y &&& (1 : Int64)) 0 = _ := this
    rw [tb_and, b64_1 0 (by decide), tb_0] at this
    simpa using this
  · intro h
    refine tb_ext fun b hb => ?_
    rw [tb_and, b64_1 b hb, tb_0]
    by_cases e : b = 0
    · rw [e, h]
      rfl
    · rw [decide_eq_false e, Bool.and_false]
theorem ix_ad : ∀ j : Fin 6, ∀ m : Fin 64, m.val < 2 ^ j.val → (∀ i : Fin 6, i.val < j.val → (m.val + 2 ^ j.val).testBit i.val = m.val.testBit i.val) ∧ (m.val + 2 ^ j.val).testBit j.val = true ∧ m.val.testBit j.val = false := by decide +kernel
section TAKES
variable {Z : zT} {d A : Nat} {as : List AkQ} {q : AkQ} {σ τ υ : Sg} {K : kS} {C : Nat × Nat × Nat × Nat} {W : Wld} {a0 j kA pl w : Nat} {k : Nat → Nat} {x : Mtd × Bool} {y : Nat → Int} {β : Nat → Bool} {v : Nat → Int}
/-- on a cell, with numbers of it -/
def CeV (A : Nat) (as : List AkQ) (y : Nat → Int) (σ : Sg) : Prop := ∀ l, l < (cuL as).length → tb (σ.l A 11) l = cuB (cuL as) y l
theorem CeS.cv (h : CeS A (cuL as) β σ) (g : agB (cuL as) β (cuL as).length y) : CeV A as y σ := fun l hl => (h.1 l hl).trans (g l hl).symm
theorem cl_holds (hA : SpA A) (F : FX ΦC σ.sh σ.r) (S : SpS A as σ) (hv : CeV A as y σ) (hw : as[w]? = some q) (kk : K (.inl (some (.int (if akH y q = true then 1 else 0)))) σ) : C_X9_holds_0 Z (d + 1) σ A (Int32.ofNat w) K := by
  obtain ⟨⟨⟨s1, s2⟩, s3⟩, ⟨s4, s5⟩, s6⟩ := S
  have hl := (List.getElem?_eq_some_iff.mp hw).1
  obtain ⟨f1, f2⟩ := s6 w q hw
  obtain ⟨l, el⟩ := cuL_at hw
  have le := cuL_le (as.take w)
  have ll : (cuL as).length = (cuL (as.take w)).length + ((akC q).length + l.length) := by rw [el, List.length_append, List.length_append]
  have al := akC_len q
  generalize hf : (cuL (as.take w)).length = f at *
  have g0 : ∀ i c, (akC q)[i]? = some c → (cuL as)[f + i]? = some c := fun i c hc => by
    have hi := (List.getElem?_eq_some_iff.mp hc).1
    rw [el, List.getElem?_append_right (by omega), hf, show f + i - f = i by omega, List.getElem?_append_left hi]
    exact hc
  have bt : ∀ i c, (akC q)[i]? = some c → tb ((Int64.toUInt64 (σ.l A 11) >>> ((Int32.toInt64 (Int32.ofNat f)).toUInt64 &&& Int64.toUInt64 63)).toInt64) i = decide (y c.1 - y c.2.1 ≤ c.2.2) := fun i c hc => by
    have hi := (List.getElem?_eq_some_iff.mp hc).1
    have hg := g0 i c hc
    have hlt := (List.getElem?_eq_some_iff.mp hg).1
    rw [tb_ushr (by omega), Nat.mod_eq_of_lt (by omega), hv _ hlt]
    unfold cuB
    rw [hg]
  refine T_X9_holds_0 F hA.p ?_
  rw [s4, oN_lt (by omega) (by omega), oN_t (by omega), f1, f2, cmpE, cmpE, an_1, an_3]
  refine ⟨fun _ => ⟨ib_oN (by omega) (by decide), ib_oN (by omega) (by decide), ?_⟩, fun z => absurd hl z⟩
  by_cases q1 : q.1 = true
  · have e : akC q = [(q.2.1, q.2.2.1, q.2.2.2), (q.2.2.1, q.2.1, -q.2.2.2)] := if_pos q1
    have b0 := bt 0 _ (by rw [e]; rfl)
    have b1 := bt 1 _ (by rw [e]; rfl)
    have ea : akH y q = decide (y q.2.1 - y q.2.2.1 = q.2.2.2) := if_pos q1
    rw [ea] at kk
    rw [if_pos q1, b0, b1]
    dsimp only at *
    rw [decide_eq_true_iff, decide_eq_true_iff]
    refine ⟨fun z => absurd z (by decide), fun _ => ⟨fun z => ?_, fun z => ?_⟩⟩
    · rw [if_neg (by rw [decide_eq_true_iff]; omega)] at kk
      exact kk
    · rw [if_pos (by rw [decide_eq_true_iff]; omega)] at kk
      exact kk
  · have e : akC q = [(q.2.1, q.2.2.1, q.2.2.2)] := if_neg q1
    have b0 := bt 0 _ (by rw [e]; rfl)
    have ea : akH y q = decide (y q.2.1 - y q.2.2.1 ≤ q.2.2.2) := if_neg q1
    rw [ea] at kk
    rw [if_neg q1, b0]
    refine ⟨fun _ => ⟨fun z => ?_, fun z => ?_⟩, fun z => absurd rfl z⟩
    · rw [if_neg z] at kk
      exact kk
    · rw [if_pos z] at kk
      exact kk
/-- a number that it wants -/
theorem it_14 {p : Nat} {pre rest : List AkQ} (hA : SpA A) (h : SkR C W a0 σ) (hx : W.2.2.2[j]? = some x) (S : SpS A as σ) (hv : CeV A as (vx v) σ) (ea : as = pre ++ (eqA x.1.2.2.2.1 p ++ rest)) (hp : p < 3) (k0 : hsI x.1.2.2.2.1 p = true → ¬ v p = eqI x.1.2.2.2.1 p → K (.inl (some (.int 0))) σ) (k1 : (hsI x.1.2.2.2.1 p = true → v p = eqI x.1.2.2.2.1 p) → C_X9_isTakenBy_14 Z (d + 2) σ A (Int32.ofNat (j + 1)) (Int32.ofNat (pre ++ eqA x.1.2.2.2.1 p).length) (Int32.ofNat (p + 1)) K) : C_X9_isTakenBy_14 Z (d + 2) σ A (Int32.ofNat (j + 1)) (Int32.ofNat pre.length) (Int32.ofNat p) K := by
  obtain ⟨hj, mt, wf⟩ := h.at hx
  obtain ⟨c1, c2, c3⟩ := mt.2.2.2.1 p hp
  refine T_X9_isTakenBy_14 h.1 hA.p ?_
  rw [show (3 : Int32) ≤ Int32.ofNat p ↔ 3 ≤ p from oN_le (a := 3) (by decide) (by omega), show (3 : Int32) = Int32.ofNat 3 from rfl, oN_mul, oN_add, oN_t (by omega), show (j + 1) * 3 + p = 3 * (j + 1) + p by omega, c2, oN_1, oN_1]
  refine ⟨fun z => absurd z (by omega), fun _ => ⟨ib_oN (by omega) (by decide), fun z => ?_, fun z => ?_⟩⟩
  · have e : ¬ hsI x.1.2.2.2.1 p = true := fun y => by
      unfold hsI at y
      rw [if_pos y] at z
      exact absurd z (by decide)
    have e0 : eqA x.1.2.2.2.1 p = [] := if_neg e
    rw [e0, List.append_nil] at k1
    exact k1 (fun q => absurd q e)
  · have e : hsI x.1.2.2.2.1 p = true := Classical.byContradiction fun y => by
      unfold hsI at y
      rw [if_neg y] at z
      exact absurd rfl z
    have e0 : eqA x.1.2.2.2.1 p = [(true, p + 1, 0, eqI x.1.2.2.2.1 p)] := if_pos e
    rw [e0] at ea k1
    have hw : as[pre.length]? = some (true, p + 1, 0, eqI x.1.2.2.2.1 p) := by
      rw [ea, List.getElem?_append_right (Nat.le_refl _), Nat.sub_self]
      rfl
    have aH : akH (vx v) (true, p + 1, 0, eqI x.1.2.2.2.1 p) = decide (v p = eqI x.1.2.2.2.1 p) := by
      show (if true = true then decide (v p - 0 = eqI x.1.2.2.2.1 p) else _) = _
      rw [if_pos rfl]
      exact decide_eq_decide.mpr (by omega)
    refine cl_holds hA h.1 S hv hw ?_
    rw [aH]
    by_cases hh : v p = eqI x.1.2.2.2.1 p
    · rw [decide_eq_true hh, if_pos rfl]
      refine ⟨fun _ => ?_, fun z => absurd z (by decide)⟩
      have := k1 (fun _ => hh)
      rw [List.length_append, List.length_singleton] at this
      exact this
    · rw [decide_eq_false hh, if_neg (by decide)]
      exact ⟨fun z => absurd rfl z, fun _ => k0 e hh⟩
/-- its tests, and the truth table -/
theorem it_60 {pre rest : List AkQ} (hA : SpA A) (h : SkR C W a0 σ) (hx : W.2.2.2[j]? = some x) (hpl : plW W.2.1 x.1.1.toNat = pl) (S : SpS A as σ) (hv : CeV A as (vx v) σ) (ea : as = pre ++ ((lvT x.1.2.2.2.2.1).map (lfA (blW W.1) k) ++ rest)) (kk : K (.inl (some (.int (if tsB (blW W.1) k v x.1.2.2.2.2.1 = true then 1 else 0)))) σ) : ∀ (n i idx : Nat), i + n = (lvT x.1.2.2.2.2.1).length → idx < 2 ^ i → (∀ i' l, i' < i → (lvT x.1.2.2.2.2.1)[i']? = some l → idx.testBit i' = tsB (blW W.1) k v l) → C_X9_isTakenBy_60 Z (d + 2) σ A (Int32.ofNat (j + 1)) (Int32.ofNat pre.length) (Int32.ofNat idx) (Int32.ofNat i) K := by
  obtain ⟨hj, mt, wf⟩ := h.at hx
  obtain ⟨t1, t2, t3, t4, t5⟩ := mt.2.2.2.2.1
  obtain ⟨k0, w1, w2, w3, w4, w5, w6, w7, -⟩ := wf
  rw [w1, Int.toNat_natCast] at hpl
  rw [hpl] at w7
  have lp : pre.length ≤ 18 := by
    have := S.2.1.2
    rw [ea, List.length_append] at this
    omega
  intro n
  induction n with
  | zero =>
    intro i idx hn hi hb
    have i64 : idx < 64 := Nat.lt_of_lt_of_le hi (Nat.pow_le_pow_right (by decide) (show i ≤ 6 by omega))
    refine T_X9_isTakenBy_60 h.1 hA.p ?_
    rw [oN_t (by omega), t1, oN_le (by omega) (by omega), t5, cmpE, an_0, tb_ushr (by omega), Nat.mod_eq_of_lt i64, Nat.add_zero idx]
    have te : tb (ttA x.1.2.2.2.2.1 0) idx = tsB (blW W.1) k v x.1.2.2.2.2.1 := by
      rcases w7 with e | e
      · rw [e]
        exact tb_m1 i64
      · exact tt_okC i64 _ e 0 (by omega) (fun i' l hl => by
          rw [Nat.zero_add]
          exact hb i' l (by have := (List.getElem?_eq_some_iff.mp hl).1; omega) hl)
    rw [te]
    refine ⟨ib_oN (by omega) (by decide), fun _ => ⟨ib_oN (by omega) (by decide), fun z => ?_, fun z => ?_⟩, fun z => absurd (by omega) z⟩
    · rw [if_neg (by rw [z]; decide)] at kk
      exact kk
    · rw [if_pos (by cases hh : tsB (blW W.1) k v x.1.2.2.2.2.1 with | true => rfl | false => exact absurd hh z)] at kk
      exact kk
  | succ n ih =>
    intro i idx hn hi hb
    obtain ⟨l, hl⟩ : ∃ l, (lvT x.1.2.2.2.2.1)[i]? = some l := ⟨_, List.getElem?_eq_getElem (by omega)⟩
    have hm := List.mem_of_getElem? hl
    have tw : tsW W.1.length pl x.1.2.2.2.2.1 := by
      rcases w7 with e | e
      · rw [e] at hm
        cases hm
      · exact e
    have p2 : 2 ^ i ≤ 32 := Nat.pow_le_pow_right (by decide) (show i ≤ 5 by omega)
    have ax := ix_ad ⟨i, by omega⟩ ⟨idx, by omega⟩ hi
    have e2 : 2 ^ (i + 1) = 2 * 2 ^ i := by rw [Nat.pow_succ]; omega
    refine T_X9_isTakenBy_60 h.1 hA.p ?_
    rw [oN_t (by omega), t1, oN_le (by omega) (by omega), oN_1, oN_add, bit_or' (by omega) hi]
    refine ⟨ib_oN (by omega) (by decide), fun z => absurd z (by omega), fun _ => ?_⟩
    have hw : as[pre.length + i]? = some (lfA (blW W.1) k l) := by
      rw [ea, List.getElem?_append_right (by omega), show pre.length + i - pre.length = i by omega, List.getElem?_append_left (by rw [List.length_map]; omega), List.getElem?_map, hl]
      rfl
    refine cl_holds hA h.1 S hv hw ?_
    rw [lf_ok v tw hm]
    have lt : ∀ i' l', i' < i + 1 → (lvT x.1.2.2.2.2.1)[i']? = some l' → i' < i ∨ (i' = i ∧ l' = l) := fun i' l' h1 h2 => by
      by_cases e : i' = i
      · subst e
        rw [hl] at h2
        cases h2
        exact Or.inr ⟨rfl, rfl⟩
      · exact Or.inl (by omega)
    cases hh : tsB (blW W.1) k v l with
    | true =>
      rw [if_pos rfl]
      refine ⟨fun z => absurd z (by decide), fun _ => ih (i + 1) (idx + 2 ^ i) (by omega) (by omega) (fun i' l' h1 h2 => ?_)⟩
      rcases lt i' l' h1 h2 with h3 | ⟨rfl, rfl⟩
      · rw [← hb i' l' h3 h2]
        exact ax.1 ⟨i', by omega⟩ h3
      · rw [hh]
        exact ax.2.1
    | false =>
      rw [if_neg (by decide)]
      refine ⟨fun _ => ih (i + 1) idx (by omega) (by omega) (fun i' l' h1 h2 => ?_), fun z => absurd rfl z⟩
      rcases lt i' l' h1 h2 with h3 | ⟨rfl, rfl⟩
      · exact hb i' l' h3 h2
      · rw [hh]
        exact ax.2.2
theorem cl_taken {pre rest : List AkQ} (hA : SpA A) (h : SkR C W a0 σ) (hx : W.2.2.2[j]? = some x) (hpl : plW W.2.1 x.1.1.toNat = pl) (S : SpS A as σ) (hv : CeV A as (vx v) σ) (ea : as = pre ++ (asQ (blW W.1) k x.1.2.2.2.1 x.1.2.2.2.2.1 ++ rest)) (kk : K (.inl (some (.int (if tkM pl x.1.2.2.2.1 (blW W.1) k x.1.2.2.2.2.1 v = true then 1 else 0)))) σ) : C_X9_isTakenBy_0 Z (d + 2) σ A (Int32.ofNat (j + 1)) (Int32.ofNat pre.length) K := by
  have wf := (h.at hx).2.2
  obtain ⟨k0, w1, w2, w3, w4, w5, w6, w7, -⟩ := wf
  have hpl' := hpl
  rw [w1, Int.toNat_natCast] at hpl'
  rw [hpl'] at w5
  have p3 : pl ≤ 3 := by
    rw [← hpl']
    unfold plW
    rw [List.getElem?_eq_getElem w2]
    exact (h.2.2.2.1.2 k0 _ (List.getElem?_eq_getElem w2)).2.2
  have al : ((List.range pl).all fun i => !hsI x.1.2.2.2.1 i || decide (v i = eqI x.1.2.2.2.1 i)) = true ↔ ∀ p, p < 3 → hsI x.1.2.2.2.1 p = true → v p = eqI x.1.2.2.2.1 p := by
    rw [List.all_eq_true]
    constructor
    · intro g p _ hh
      have pl' : p < pl := Nat.lt_of_not_le fun z => by
        rw [sp_no (by omega)] at hh
        cases hh
      have := g p (List.mem_range.mpr pl')
      rw [hh] at this
      exact of_decide_eq_true this
    · intro g p hp
      have hp := List.mem_range.mp hp
      cases hh : hsI x.1.2.2.2.1 p with
      | false => rfl
      | true => exact decide_eq_true (g p (by omega) hh)
  unfold tkM at kk
  have no : ∀ p, p < 3 → hsI x.1.2.2.2.1 p = true → ¬ v p = eqI x.1.2.2.2.1 p → K (.inl (some (.int 0))) σ := fun p hp h1 h2 => by
    rw [if_neg (by
      rw [Bool.and_eq_true_iff]
      exact fun z => h2 (al.mp z.1 p hp h1))] at kk
    exact kk
  unfold asQ at ea
  rw [List.append_assoc, List.append_assoc, List.append_assoc] at ea
  refine T_X9_isTakenBy_0 h.1 hA.p ?_
  refine it_14 (p := 0) hA h hx S hv ea (by omega) (no 0 (by omega)) (fun h0 => ?_)
  refine it_14 (p := 1) hA h hx S hv (by rw [ea, List.append_assoc]) (by omega) (no 1 (by omega)) (fun h1 => ?_)
  refine it_14 (p := 2) hA h hx S hv (by rw [ea, List.append_assoc, List.append_assoc]) (by omega) (no 2 (by omega)) (fun h2 => ?_)
  refine T_X9_isTakenBy_14 h.1 hA.p ⟨fun _ => ?_, fun z => absurd (by decide) z⟩
  refine it_60 hA h hx hpl S hv (by rw [ea, List.append_assoc, List.append_assoc, List.append_assoc]) ?_ (lvT x.1.2.2.2.2.1).length 0 0 (by omega) (by decide) (fun i' l z => absurd z (Nat.not_lt_zero _))
  have ok := al.mpr (fun p hp hh => by
    have : p = 0 ∨ p = 1 ∨ p = 2 := by omega
    rcases this with rfl | rfl | rfl
    · exact h0 hh
    · exact h1 hh
    · exact h2 hh)
  rw [ok, Bool.true_and] at kk
  exact kk
end TAKES

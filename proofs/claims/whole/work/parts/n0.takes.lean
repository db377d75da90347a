/-! THE CLASS: whether a method takes what is given -/
theorem cmpL {x y : Int64} : 0 < lg_cmp x y ↔ y.toInt < x.toInt := by
  unfold lg_cmp
  split
  · rename_i h
    exact ⟨fun _ => Int64.lt_iff_toInt_lt.mp h, fun _ => by decide⟩
  · rename_i h
    split
    · rename_i e
      subst e
      exact ⟨fun z => absurd z (by decide), fun z => absurd z (by omega)⟩
    · rename_i e
      refine ⟨fun z => absurd z (by decide), fun z => absurd (Int64.lt_iff_toInt_lt.mpr z) h⟩
section TAKEV
variable {Z : zT} {d A u : Nat} {σ σ0 τ υ : Sg} {K : kS} {C : Nat × Nat × Nat × Nat} {W : Wld} {wy a0 gA c m n j pl : Nat} {k : Nat → Nat} {v : Nat → Int} {L on : List Nat} {x : Mtd × Bool}
/-- what is given: kinds k, numbers v -/
def GvS (gA pl : Nat) (k : Nat → Nat) (v : Nat → Int) (σ : Sg) : Prop := (∃ n, 3 ≤ n ∧ σ.sh[gA]? = some (Sh.arr 1 n)) ∧ ∀ p, p < pl → kdV (σ.l gA p) = Int32.ofNat (k p) ∧ (nmV (σ.l gA p)).toInt = v p
theorem GvS.xf {E : Nat → Prop} (h : GvS gA pl k v σ) (g : XF E σ τ) (hE : ¬ E gA) : GvS gA pl k v τ := by
  unfold GvS
  rw [g.1, (g.2.2 gA hE).2]
  exact h
theorem GvS.gf {E : Nat → Prop} (h : GvS gA pl k v σ) (g : GwF E σ τ) (hE : ¬ E gA) : GvS gA pl k v τ := by
  obtain ⟨⟨nn, n3, hs⟩, hk⟩ := h
  have hl := (List.getElem?_eq_some_iff.mp hs).1
  refine ⟨⟨nn, n3, g.sh hs⟩, ?_⟩
  rw [(g.2.2 gA hl hE).2]
  exact hk
/-- one test -/
theorem ch_holds {i : Nat} {l : Ast} (h : SkR C W a0 σ) (hx : W.2.2.2[j]? = some x) (hpl : plW W.2.1 x.1.1.toNat = pl) (ka : KaS W 89 pl k σ) (gv : GvS gA pl k v σ) (hi : (lvT x.1.2.2.2.2.1)[i]? = some l) (kk : K (.inl (some (.int (if tsB (blW W.1) k v l = true then 1 else 0)))) σ) : C_X0_holds_0 Z (d + 2) σ (Int32.ofNat (6 * (j + 1) + i)) gA K := by
  obtain ⟨hj, mt, wf⟩ := h.at hx
  obtain ⟨t1, t2, t3, t4, t5⟩ := mt.2.2.2.2.1
  have il := (List.getElem?_eq_some_iff.mp hi).1
  have hm := List.mem_of_getElem? hi
  have pp := h.plx hx
  rw [hpl] at pp
  have tw : tsW W.1.length pl x.1.2.2.2.2.1 := by
    rcases pp.2.2.1 with e | e
    · rw [e] at hm
      cases hm
    · exact e
  have l24 := h.2.1.2.1
  obtain ⟨⟨nn, n3, hs⟩, hg⟩ := gv
  refine T_X0_holds_0 h.1 ?_
  rw [oN_t (by omega)]
  refine ⟨ib_oN (by omega) (by decide), ib_oN (by omega) (by decide), ib_oN (by omega) (by decide), ?_⟩
  rcases t4 i l hi with ⟨ty, pa, pb, mo, el, f1, f2, f3, f4⟩ | ⟨kd, w, el, f1, f2, f3, f4⟩
  · rcases lv_c _ tw l hm with ⟨y, w, pb', mo', e2, h1, h2, h3, h4⟩ | ⟨y, w, e2, -⟩
    · rw [el] at e2
      injection e2 with _ e2
      injection e2 with e3 e2
      injection e2 with e4 e2
      injection e2 with e5 e2
      injection e5 with e6 e5
      injection e5 with e7 e5
      subst e4 e6 e7
      have ts : tsB (blW W.1) k v l = cmS (ty : Int) (trm v pa - trm v pb + mo) := by
        rw [el, tsB_2, if_neg (by decide), if_neg (by decide), if_neg (by decide), if_neg (by decide)]
        rfl
      rw [ts] at kk
      have ra : ∀ q : Int, -1 ≤ q → q < (pl : Int) → -2147483648 ≤ trm v q ∧ trm v q ≤ 2147483647 := fun q q1 q2 => by
        unfold trm
        split
        · omega
        · have := (hg q.toNat (by omega)).2
          have r := i32_le (nmV (σ.l gA q.toNat))
          omega
      have b1 := ra pa h2.1 h2.2
      have b2 := ra pb h3.1 h3.2
      have nn' : ∀ q : Int, 0 ≤ q → q < (pl : Int) → ((Int32.toInt64 (Int64.toInt32 (σ.l gA q.toNat)))).toInt = trm v q := fun q q1 q2 => by
        rw [Int32.toInt_toInt64]
        unfold trm
        rw [if_neg (by omega)]
        exact (hg q.toNat (by omega)).2
      have em : ∀ q : Int, 0 ≤ q → q < (pl : Int) → (Int32.ofInt (q + 1) - 1 = Int32.ofNat q.toNat ∧ ib (Int32.ofNat q.toNat) nn ∧ (Int32.ofNat q.toNat).toNatClampNeg = q.toNat) := fun q q1 q2 => by
        refine ⟨?_, ib_i (by rw [oN_i (by omega)]; omega) (by rw [oN_i (by omega)]; omega), oN_t (by omega)⟩
        rw [show q + 1 = ((q.toNat + 1 : Nat) : Int) by omega]
        exact oN_p1 (m := q.toNat + 1) (by omega)
      have ez : ∀ q : Int, -1 ≤ q → q < (pl : Int) → (Int32.ofInt (q + 1) = 0 ↔ q = -1) := fun q q1 q2 => by
        rw [show q + 1 = (((q + 1).toNat : Nat) : Int) by omega]
        refine (oN_eq (a := (q + 1).toNat) (b := 0) (by omega) (by decide)).trans ?_
        omega
      -- the last step
      have s90 : ∀ s0 s1 : Int64, s0.toInt = trm v pa → s1.toInt = trm v pb → C_X0_holds_90 Z (d + 2) σ (Int32.ofNat (6 * (j + 1) + i)) s0 s1 K := fun s0 s1 q0 q1 => by
        have sb : (s0 - s1).toInt = trm v pa - trm v pb := by
          rw [Int64.toInt_sub, q0, q1, Int.bmod_def]
          omega
        have mob : (Int64.ofInt (-mo - if ty = 15 then 1 else 0)).toInt = -mo - if ty = 15 then 1 else 0 := by
          refine Int64.toInt_ofInt_of_le ?_ ?_
          · show -9223372036854775808 ≤ _
            split <;> omega
          · show _ < 9223372036854775808
            split <;> omega
        refine T_X0_holds_90 h.1 ?_
        rw [oN_t (by omega), f1, f4, cmpL, cmpE, ← Int64.toInt_inj, sb, mob]
        refine ⟨ib_oN (by omega) (by decide), fun z => ⟨ib_oN (by omega) (by decide), ?_⟩, fun z => ⟨ib_oN (by omega) (by decide), ?_⟩⟩
        · have t16 : ty ≠ 16 := fun q => z (by rw [if_pos q])
          by_cases t15 : ty = 15
          · have ce : cmS (ty : Int) (trm v pa - trm v pb + mo) = decide (trm v pa - trm v pb + mo < 0) := by
              unfold cmS
              rw [if_neg (show ¬ (ty : Int) = 16 by omega), if_neg (show ¬ (ty : Int) = 17 by omega)]
            rw [ce] at kk
            rw [if_pos t15]
            refine ⟨fun q => ?_, fun q => ?_⟩
            · rw [if_neg (by rw [decide_eq_true_iff]; omega)] at kk
              exact kk
            · rw [if_pos (by rw [decide_eq_true_iff]; omega)] at kk
              exact kk
          · have ce : cmS (ty : Int) (trm v pa - trm v pb + mo) = decide (trm v pa - trm v pb + mo ≤ 0) := by
              unfold cmS
              rw [if_neg (show ¬ (ty : Int) = 16 by omega), if_pos (show (ty : Int) = 17 by omega)]
            rw [ce] at kk
            rw [if_neg t15]
            refine ⟨fun q => ?_, fun q => ?_⟩
            · rw [if_neg (by rw [decide_eq_true_iff]; omega)] at kk
              exact kk
            · rw [if_pos (by rw [decide_eq_true_iff]; omega)] at kk
              exact kk
        · have t16 : ty = 16 := Classical.byContradiction fun q => by
            rw [if_neg q] at z
            exact absurd z (by decide)
          have ce : cmS (ty : Int) (trm v pa - trm v pb + mo) = decide (trm v pa - trm v pb + mo = 0) := by
            unfold cmS
            rw [if_pos (show (ty : Int) = 16 by omega)]
          rw [ce] at kk
          rw [if_neg (show ¬ ty = 15 by omega)]
          refine ⟨fun q => ?_, fun q => ?_⟩
          · rw [if_neg (by rw [decide_eq_true_iff]; omega)] at kk
            exact kk
          · rw [if_pos (by rw [decide_eq_true_iff]; omega)] at kk
            exact kk
      have s73 : ∀ s0 : Int64, s0.toInt = trm v pa → C_X0_holds_73 Z (d + 2) σ (Int32.ofNat (6 * (j + 1) + i)) gA (Int32.ofInt (pb + 1)) s0 K := fun s0 q0 => by
        refine T_X0_holds_73 h.1 ?_
        rw [ez pb h3.1 h3.2]
        refine ⟨fun z => ⟨nn, hs, ?_⟩, fun z => s90 s0 0 q0 ?_⟩
        · obtain ⟨m1, m2, m3⟩ := em pb (by omega) h3.2
          rw [m1, m3]
          exact ⟨m2, s90 s0 _ q0 (nn' pb (by omega) h3.2)⟩
        · unfold trm
          rw [if_pos (by omega)]
          rfl
      refine ⟨fun _ => ?_, fun z => ?_⟩
      · rw [f2, f3, ez pa h2.1 h2.2]
        refine ⟨fun z => ⟨nn, hs, ?_⟩, fun z => s73 0 ?_⟩
        · obtain ⟨m1, m2, m3⟩ := em pa (by omega) h2.2
          rw [m1, m3]
          exact ⟨m2, s73 _ (nn' pa (by omega) h2.2)⟩
        · unfold trm
          rw [if_pos (by omega)]
          rfl
      · rw [f1] at z
        split at z <;> exact absurd z (by decide)
    · rw [el] at e2
      injection e2 with e2 _
      exact absurd e2 (by decide)
  · rcases lv_c _ tw l hm with ⟨y, w', pb', mo', e2, -⟩ | ⟨y, w', e2, h1, h2⟩
    · rw [el] at e2
      injection e2 with e2 _
      exact absurd e2 (by decide)
    · rw [el] at e2
      injection e2 with _ e2
      injection e2 with e3 e2
      injection e2 with e4 e2
      subst e3 e4
      obtain ⟨-, hkk⟩ := ka
      obtain ⟨kp, kl⟩ := hkk w.toNat (by omega)
      refine ⟨fun z => absurd f1 z, fun _ => ?_⟩
      rw [f2, f3, show w + 1 = ((w.toNat + 1 : Nat) : Int) by omega, show kd = ((kd.toNat : Nat) : Int) by omega]
      have em : Int32.ofInt ((w.toNat + 1 : Nat) : Int) - 1 = Int32.ofNat w.toNat := oN_p1 (m := w.toNat + 1) (by omega)
      rw [em, oN_t (by omega), kp]
      refine ⟨ib_oN (by omega) (by decide), cl_below (k := k w.toNat) (y := kd.toNat) h kl (by omega) ⟨?_, ?_⟩⟩
      · split <;> rfl
      · have ts : tsB (blW W.1) k v l = blW W.1 (k w.toNat) kd.toNat := by
          rw [el, tsB_2, if_neg (by decide), if_neg (by decide), if_neg (by decide), if_pos rfl]
        rw [ts] at kk
        unfold blW at kk
        simp only [decide_eq_true_iff] at kk
        exact kk
/-- a method and what is given -/
theorem cl_takes (h : SkR C W a0 σ) (hx : W.2.2.2[j]? = some x) (hpl : plW W.2.1 x.1.1.toNat = pl) (ka : KaS W 89 pl k σ) (gv : GvS gA pl k v σ) (kk : K (.inl (some (.int (if tkM pl x.1.2.2.2.1 (blW W.1) k x.1.2.2.2.2.1 v = true then 1 else 0)))) σ) : C_X0_takes_0 Z (d + 3) σ (Int32.ofNat (j + 1)) gA K := by
  obtain ⟨hj, mt, wf⟩ := h.at hx
  obtain ⟨t1, t2, t3, t4, t5⟩ := mt.2.2.2.2.1
  have pp := h.plx hx
  rw [hpl] at pp
  have w6 : ∀ s ∈ x.1.2.2.2.1, (0 ≤ s.1 ∧ s.1 < (W.1.length : Int)) ∧ (-2147483647 ≤ s.2.2 ∧ s.2.2 ≤ 2147483647) := by
    obtain ⟨k0, w1, w2, w3, w4, w5, w6, -⟩ := wf
    exact w6
  obtain ⟨⟨nn, n3, hs⟩, hg⟩ := id gv
  have al : ((List.range pl).all fun i => !hsI x.1.2.2.2.1 i || decide (v i = eqI x.1.2.2.2.1 i)) = true ↔ ∀ p, p < 3 → hsI x.1.2.2.2.1 p = true → v p = eqI x.1.2.2.2.1 p := by
    rw [List.all_eq_true]
    constructor
    · intro g p _ hh
      have pl' : p < pl := Nat.lt_of_not_le fun z => by
        rw [sp_no (by omega)] at hh
        cases hh
      have := g p (List.mem_range.mpr pl')
      rw [hh] at this
      exact of_decide_eq_true this
    · intro g p hp
      have hp := List.mem_range.mp hp
      cases hh : hsI x.1.2.2.2.1 p with
      | false => rfl
      | true => exact decide_eq_true (g p (by omega) hh)
  unfold tkM at kk
  -- the tests
  have i60 : ((List.range pl).all fun i => !hsI x.1.2.2.2.1 i || decide (v i = eqI x.1.2.2.2.1 i)) = true → ∀ (n i idx : Nat), i + n = (lvT x.1.2.2.2.2.1).length → idx < 2 ^ i → (∀ i' l, i' < i → (lvT x.1.2.2.2.2.1)[i']? = some l → idx.testBit i' = tsB (blW W.1) k v l) → C_X0_takes_64 Z (d + 3) σ (Int32.ofNat (j + 1)) gA (Int32.ofNat idx) (Int32.ofNat i) K := by
    intro ok
    rw [ok, Bool.true_and] at kk
    intro n
    induction n with
    | zero =>
      intro i idx hn hi hb
      have i64 : idx < 64 := Nat.lt_of_lt_of_le hi (Nat.pow_le_pow_right (by decide) (show i ≤ 6 by omega))
      refine T_X0_takes_64 h.1 ?_
      rw [oN_t (by omega), t1, oN_le (by omega) (by omega), t5, cmpE, an_0, tb_ushr (by omega), Nat.mod_eq_of_lt i64, Nat.add_zero idx]
      have te : tb (ttA x.1.2.2.2.2.1 0) idx = tsB (blW W.1) k v x.1.2.2.2.2.1 := by
        rcases pp.2.2.1 with e | e
        · rw [e]
          exact tb_m1 i64
        · exact tt_okC i64 _ e 0 (by omega) (fun i' l hl => by
            rw [Nat.zero_add]
            exact hb i' l (by have := (List.getElem?_eq_some_iff.mp hl).1; omega) hl)
      rw [te]
      refine ⟨ib_oN (by omega) (by decide), fun _ => ⟨ib_oN (by omega) (by decide), fun z => ?_, fun z => ?_⟩, fun z => absurd (by omega) z⟩
      · rw [if_neg (by rw [z]; decide)] at kk
        exact kk
      · rw [if_pos (by cases hh : tsB (blW W.1) k v x.1.2.2.2.2.1 with | true => rfl | false => exact absurd hh z)] at kk
        exact kk
    | succ n ih =>
      intro i idx hn hi hb
      obtain ⟨l, hl⟩ : ∃ l, (lvT x.1.2.2.2.2.1)[i]? = some l := ⟨_, List.getElem?_eq_getElem (by omega)⟩
      have p2 : 2 ^ i ≤ 32 := Nat.pow_le_pow_right (by decide) (show i ≤ 5 by omega)
      have ax := ix_ad ⟨i, by omega⟩ ⟨idx, by omega⟩ hi
      have e2 : 2 ^ (i + 1) = 2 * 2 ^ i := by rw [Nat.pow_succ]; omega
      refine T_X0_takes_64 h.1 ?_
      rw [oN_t (by omega), t1, oN_le (by omega) (by omega), oN_1, show (6 : Int32) = Int32.ofNat 6 from rfl, oN_mul, oN_add, show (j + 1) * 6 + i = 6 * (j + 1) + i by omega, bit_or' (by omega) hi]
      refine ⟨ib_oN (by omega) (by decide), fun z => absurd z (by omega), fun _ => ch_holds h hx hpl ka gv hl ?_⟩
      have lt : ∀ i' l', i' < i + 1 → (lvT x.1.2.2.2.2.1)[i']? = some l' → i' < i ∨ (i' = i ∧ l' = l) := fun i' l' h1 h2 => by
        by_cases e : i' = i
        · subst e
          rw [hl] at h2
          cases h2
          exact Or.inr ⟨rfl, rfl⟩
        · exact Or.inl (by omega)
      cases hh : tsB (blW W.1) k v l with
      | true =>
        rw [if_pos rfl]
        refine ⟨fun z => absurd z (by decide), fun _ => ih (i + 1) (idx + 2 ^ i) (by omega) (by omega) (fun i' l' h1 h2 => ?_)⟩
        rcases lt i' l' h1 h2 with h3 | ⟨rfl, rfl⟩
        · rw [← hb i' l' h3 h2]
          exact ax.1 ⟨i', by omega⟩ h3
        · rw [hh]
          exact ax.2.1
      | false =>
        rw [if_neg (by decide)]
        refine ⟨fun _ => ih (i + 1) idx (by omega) (by omega) (fun i' l' h1 h2 => ?_), fun z => absurd rfl z⟩
        rcases lt i' l' h1 h2 with h3 | ⟨rfl, rfl⟩
        · exact hb i' l' h3 h2
        · rw [hh]
          exact ax.2.2
  have s11 : ∀ (n p : Nat), p + n = 3 → (∀ p', p' < p → hsI x.1.2.2.2.1 p' = true → v p' = eqI x.1.2.2.2.1 p') → C_X0_takes_11 Z (d + 3) σ (Int32.ofNat (j + 1)) gA (Int32.ofNat p) K := by
    intro n
    induction n with
    | zero =>
      intro p hp hd
      have e3 : p = 3 := by omega
      subst e3
      exact T_X0_takes_11 h.1 ⟨fun _ => i60 (al.mpr hd) _ 0 0 (Nat.zero_add _) (by decide) (fun i' l z => absurd z (Nat.not_lt_zero _)), fun z => absurd (by decide) z⟩
    | succ n ih =>
      intro p hp hd
      obtain ⟨c1, c2, c3⟩ := mt.2.2.2.1 p (by omega)
      refine T_X0_takes_11 h.1 ?_
      rw [show (3 : Int32) ≤ Int32.ofNat p ↔ 3 ≤ p from oN_le (a := 3) (by decide) (by omega), show (3 : Int32) = Int32.ofNat 3 from rfl, oN_mul, oN_add, oN_t (by omega), oN_t (by omega), show (j + 1) * 3 + p = 3 * (j + 1) + p by omega, c2, c3, oN_1]
      refine ⟨fun z => absurd z (by omega), fun _ => ⟨ib_oN (by omega) (by decide), fun z => ?_, fun z => ⟨ib_oN (by omega) (by decide), nn, hs, ib_i (by rw [oN_i (by omega)]; omega) (by rw [oN_i (by omega)]; omega), ?_⟩⟩⟩
      · refine ih (p + 1) (by omega) (fun p' h1 h2 => ?_)
        by_cases e : p' = p
        · subst e
          have h2 : (x.1.2.2.2.1.getD p' (0, false, 0)).2.1 = true := h2
          rw [if_pos h2] at z
          exact absurd z (by decide)
        · exact hd p' (by omega) h2
      · have e : hsI x.1.2.2.2.1 p = true := Classical.byContradiction fun y => by
          unfold hsI at y
          rw [if_neg y] at z
          exact absurd rfl z
        have e' : (x.1.2.2.2.1.getD p (0, false, 0)).2.1 = true := e
        have pl' : p < pl := Nat.lt_of_not_le fun z => by
          rw [sp_no (by omega)] at e
          cases e
        have r := sp_r w6 p
        have ev : (Int32.ofInt (x.1.2.2.2.1.getD p (0, false, 0)).2.2).toInt = eqI x.1.2.2.2.1 p := Int32.toInt_ofInt_of_le (by show -2147483648 ≤ eqI x.1.2.2.2.1 p; omega) (by show eqI x.1.2.2.2.1 p < 2147483648; omega)
        have gp := (hg p pl').2
        rw [if_pos e']
        have iff : Int32.ofInt (x.1.2.2.2.1.getD p (0, false, 0)).2.2 = Int64.toInt32 (σ.l gA p) ↔ v p = eqI x.1.2.2.2.1 p := by
          rw [← Int32.toInt_inj, ev]
          have gp' : (Int64.toInt32 (σ.l gA p)).toInt = v p := gp
          rw [gp']
          exact ⟨fun q => q.symm, fun q => q.symm⟩
        rw [iff]
        refine ⟨fun q => ih (p + 1) (by omega) (fun p' h1 h2 => ?_), fun q => ?_⟩
        · by_cases e : p' = p
          · rw [e]
            exact q
          · exact hd p' (by omega) h2
        · rw [if_neg (by
            rw [Bool.and_eq_true_iff]
            exact fun z => q (al.mp z.1 p (by omega) e))] at kk
          exact kk
  exact T_X0_takes_0 h.1 (s11 3 0 (by omega) (fun p' z => absurd z (Nat.not_lt_zero _)))
/-- layers that are on, the last first -/
def lyE (on : List Nat) : Int64 := Int64.ofNat (enL on.reverse)
theorem enL_at : ∀ (on : List Nat), (∀ l ∈ on, l < 15) → ∀ i, enL on / 16 ^ i % 16 = match on[i]? with
    | some l => l + 1
    | none => 0
  | [], _, i => by
    rw [enL, Nat.zero_div, Nat.zero_mod]
    rfl
  | l :: r, h, 0 => by
    have := h l (List.mem_cons_self ..)
    rw [enL, Nat.pow_zero, Nat.div_one]
    show (l + 1 + 16 * enL r) % 16 = l + 1
    omega
  | l :: r, h, i + 1 => by
    have hl := h l (List.mem_cons_self ..)
    have ih := enL_at r (fun x hx => h x (List.mem_cons_of_mem _ hx)) i
    rw [List.getElem?_cons_succ, ← ih, enL, Nat.pow_succ, Nat.mul_comm (16 ^ i), ← Nat.div_div_eq_div_mul, show (l + 1 + 16 * enL r) / 16 = enL r by omega]
/-- layers as they should be -/
def LyW (W : Wld) (on : List Nat) : Prop := on.length ≤ 8 ∧ (∀ l ∈ on, l < W.2.2.1.length) ∧ on.Nodup
theorem lyE_b (h8 : W.2.2.1.length ≤ 8) (ho : LyW W on) : enL on.reverse < 4294967296 := by
  have := enL_lt on.reverse (fun l hl => by have := ho.2.1 l (List.mem_reverse.mp hl); omega)
  rw [List.length_reverse] at this
  exact Nat.lt_of_lt_of_le this (Nat.le_trans (Nat.pow_le_pow_right (by decide) ho.1) (by decide))
theorem cl_isOn {ly : Int} (F : FX ΦC σ.sh σ.r) (h8 : W.2.2.1.length ≤ 8) (ho : LyW W on) (hl : -1 ≤ ly ∧ ly < 8) (kk : K (.inl (some (.int (if (decide (ly < 0) || decide (ly.toNat ∈ on)) = true then 1 else 0)))) σ) : C_X0_isOn_0 Z (d + 1) σ (Int32.ofInt ly) (lyE on) K := by
  have eb := lyE_b h8 ho
  refine T_X0_isOn_0 F ⟨fun z => ?_, fun z => ?_⟩
  · have l0 : 0 ≤ ly := by
      rw [Int32.le_iff_toInt_le, Int32.toInt_ofInt_of_le (by show -2147483648 ≤ ly; omega) (by show ly < 2147483648; omega)] at z
      exact z
    rw [decide_eq_false (show ¬ ly < 0 by omega), Bool.false_or] at kk
    have lp : ∀ (r i : Nat), i + r = 8 → (∀ i', i' < i → on.reverse[i']? ≠ some ly.toNat) → C_X0_isOn_8 Z (d + 1) σ (Int32.ofInt ly) (lyE on) (Int32.ofNat (4 * i)) K := by
      intro r
      induction r with
      | zero =>
        intro i hi hd
        have e : i = 8 := by omega
        subst e
        refine T_X0_isOn_8 F ⟨fun _ => ?_, fun z => absurd (by decide) z⟩
        rw [if_neg (fun q => by
          rw [decide_eq_true_iff] at q
          obtain ⟨i', hi'⟩ := List.mem_iff_getElem?.mp (List.mem_reverse.mpr q)
          have := (List.getElem?_eq_some_iff.mp hi').1
          rw [List.length_reverse] at this
          have := ho.1
          exact hd i' (by omega) hi')] at kk
        exact kk
      | succ r ih =>
        intro i hi hd
        have at' := enL_at on.reverse (fun l hl => by have := ho.2.1 l (List.mem_reverse.mp hl); omega) i
        have dl : enL on.reverse / 16 ^ i ≤ enL on.reverse := Nat.div_le_self _ _
        refine T_X0_isOn_8 F ?_
        rw [show (32 : Int32) ≤ Int32.ofNat (4 * i) ↔ 32 ≤ 4 * i from oN_le (a := 32) (by decide) (by omega), cmpE]
        unfold lyE
        rw [n4_sh (by omega) (by omega), n4_and (by omega), at', show (4 : Int32) = Int32.ofNat 4 from rfl, oN_add, show 4 * i + 4 = 4 * (i + 1) by omega]
        have el : Int32.toInt64 (Int32.ofInt ly + 1) = Int64.ofNat (ly.toNat + 1) := by
          rw [show ly = ((ly.toNat : Nat) : Int) by omega]
          show Int32.toInt64 (Int32.ofNat ly.toNat + 1) = _
          rw [oN_1, oN_64 (by omega)]
          rfl
        rw [el]
        have iff : Int64.ofNat (match on.reverse[i]? with | some l => l + 1 | none => 0) = Int64.ofNat (ly.toNat + 1) ↔ on.reverse[i]? = some ly.toNat := by
          cases e : on.reverse[i]? with
          | none =>
            refine ⟨fun q => ?_, fun q => by cases q⟩
            have := congrArg Int64.toInt q
            have e2 : (Int64.ofNat (ly.toNat + 1)).toInt = ((ly.toNat + 1 : Nat) : Int) := i64_oi (by omega)
            rw [e2] at this
            have this : (0 : Int) = ((ly.toNat + 1 : Nat) : Int) := this
            omega
          | some l =>
            have lb := ho.2.1 l (List.mem_reverse.mp (List.mem_of_getElem? e))
            dsimp only
            rw [Option.some.injEq]
            refine ⟨fun q => ?_, fun q => by rw [q]⟩
            have := congrArg Int64.toInt q
            rw [i64_oi (by omega), i64_oi (by omega)] at this
            omega
        rw [iff]
        refine ⟨fun z => absurd z (by omega), fun _ => ⟨fun q => ih (i + 1) (by omega) (fun i' hi' => ?_), fun q => ?_⟩⟩
        · by_cases e : i' = i
          · rw [e]
            exact q
          · exact hd i' (by omega)
        · rw [if_pos (decide_eq_true (List.mem_reverse.mp (List.mem_of_getElem? q)))] at kk
          exact kk
    exact lp 8 0 (by omega) (fun i' z => absurd z (Nat.not_lt_zero _))
  · have l0 : ly < 0 := by
      rw [Int32.le_iff_toInt_le, Int32.toInt_ofInt_of_le (by show -2147483648 ≤ ly; omega) (by show ly < 2147483648; omega)] at z
      have z : ¬ 0 ≤ ly := z
      omega
    rw [decide_eq_true l0, Bool.true_or, if_pos rfl] at kk
    exact kk
end TAKEV

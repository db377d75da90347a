/-! THE REFERENCE: explore() -/
def ExF (at' : Nat) (σ τ : Sg) : Prop := τ.sh = σ.sh ∧ τ.r = σ.r ∧ (∀ a k, ¬ (a = 0 ∧ (k = 48 ∨ k = 53 ∨ k = 54)) → a ≠ 2068 → ¬ (a = 1935 ∧ at' ≤ k) → τ.i a k = σ.i a k) ∧ ∀ a, ¬ (1938 + at' < a ∧ a ≤ 2066) → τ.l a = σ.l a
theorem ExF.refl (n : Nat) (σ : Sg) : ExF n σ σ := ⟨rfl, rfl, fun _ _ _ _ _ => rfl, fun _ _ => rfl⟩
theorem ExF.tr {n : Nat} {σ τ υ : Sg} (h : ExF n σ τ) (g : ExF n τ υ) : ExF n σ υ := ⟨g.1.trans h.1, g.2.1.trans h.2.1, fun a k h1 h2 h3 => (g.2.2.1 a k h1 h2 h3).trans (h.2.2.1 a k h1 h2 h3), fun a ha => (g.2.2.2 a ha).trans (h.2.2.2 a ha)⟩
theorem ExF.le {n m : Nat} {σ τ : Sg} (h : ExF m σ τ) (hn : n ≤ m) : ExF n σ τ := ⟨h.1, h.2.1, fun a k h1 h2 h3 => h.2.2.1 a k h1 h2 (fun q => h3 ⟨q.1, by omega⟩), fun a ha => h.2.2.2 a (fun q => ha ⟨by omega, q.2⟩)⟩
theorem ExF.row {n : Nat} {σ τ : Sg} (h : ExF n σ τ) {a : Nat} (h0 : a ≠ 0) (h1 : a ≠ 2068) (h2 : a ≠ 1935) : τ.i a = σ.i a := funext fun k => h.2.2.1 a k (fun q => h0 q.1) h1 (fun q => h2 q.1)
theorem CuF.ex {σ τ : Sg} (h : CuF σ τ) (n : Nat) : ExF n σ τ := ⟨h.1, h.2.2.1, fun a k h1 _ _ => h.2.2.2 a k (fun q => h1 ⟨q.1, Or.inl q.2⟩), fun a _ => by rw [h.2.1]⟩
/-- what explore() reads -/
def ExS (kA : Nat) (bl : Nat → Nat → Bool) (k : Nat → Nat) (kn pl : Nat) (as : List Ask) (σ : Sg) : Prop :=
  FX ΦR σ.sh σ.r ∧ (σ.r 0 51 = Rf.ptr kA ∧ σ.sh[kA]? = some (Sh.arr 0 3) ∧ (kA ≠ 0 ∧ kA ≠ 1935 ∧ kA ≠ 2068)) ∧ pl ≤ 3 ∧ (∀ i, i < pl → σ.i kA i = Int32.ofNat (k i) ∧ k i < kn) ∧ kn ≤ 24 ∧ (∀ a b, a < kn → b < kn → σ.i (1880 + 1 + a) b = if bl a b = true then 1 else 0) ∧ (σ.i 0 50 = Int32.ofNat as.length ∧ as.length ≤ 8) ∧
  (∀ (j : Nat) y, as[j]? = some y → σ.i 2067 j = Int32.ofNat y.1 ∧ (1 ≤ y.1 ∧ y.1 ≤ 120) ∧ TkS (2497 + 4 * y.1) pl y.2.1 y.2.2 σ ∧ (y.2.2 = .nil ∨ tsW kn pl y.2.2) ∧ tH y.2.2 ≤ 18) ∧ AtS σ (atA pl as) ∧ (atA pl as).length ≤ 128 ∧ (∀ q ∈ atA pl as, q.1 < 4 ∧ q.2.1 < 4 ∧ (-4294967294 ≤ q.2.2 ∧ q.2.2 ≤ 4294967294))
/-- the masks seen -/
def SeS (N : Nat) (s : Nat → Bool) (σ : Sg) : Prop := (∀ m, m < 2 ^ N → σ.i 2068 m = if s m = true then 1 else 0) ∧ σ.i 0 54 = Int32.ofNat ((List.range (2 ^ N)).countP s)
section T3
variable (bl : Nat → Nat → Bool) (k : Nat → Nat) (pl : Nat) (as : List Ask) (oc : Nat → Int) (at' : Nat)
def t3 (j : Nat) : Nat := match as[j]? with
  | some y => tk3 pl y.2.1 oc at' bl k y.2.2 (atA pl (as.take j)).length
  | none => 0
def mk3 : Nat → Nat
  | 0 => 0
  | j + 1 => mk3 j + if t3 bl k pl as oc at' j = 1 then 2 ^ j else 0
def wh3 : Nat → Bool
  | 0 => true
  | j + 1 => wh3 j && decide (t3 bl k pl as oc at' j ≠ 2)
end T3
section EXPL
variable {Z : zT} {kA kn pl : Nat} {bl : Nat → Nat → Bool} {k : Nat → Nat} {as : List Ask}
theorem mk3_lt {oc : Nat → Int} {at' : Nat} : ∀ j, mk3 bl k pl as oc at' j < 2 ^ j
  | 0 => by
    show 0 < 1
    decide
  | j + 1 => by
    have := mk3_lt (oc := oc) (at' := at') j
    rw [mk3, Nat.pow_succ]
    split <;> omega
theorem wh3_ok {oc : Nat → Int} {at' : Nat} {v : Nat → Int} (hW : ∀ (j : Nat) y, as[j]? = some y → y.2.2 = .nil ∨ tsW kn pl y.2.2) (ho : OcV oc at' v (atA pl as) 0) : ∀ j, j ≤ as.length → wh3 bl k pl as oc at' j = true → mk3 bl k pl as oc at' j = mkV pl bl k as v j
  | 0, _, _ => rfl
  | j + 1, hj, hw => by
    rw [wh3, Bool.and_eq_true] at hw
    have ih := wh3_ok hW ho j (by omega) hw.1
    have e : as[j]? = some as[j] := List.getElem?_eq_getElem (by omega)
    obtain ⟨r, er⟩ := atA_pre pl as (j + 1)
    rw [atA_take pl as e] at er
    rw [er] at ho
    have ho2 := ho.sub
    rw [Nat.zero_add] at ho2
    have ht : t3 bl k pl as oc at' j = tk3 pl as[j].2.1 oc at' bl k as[j].2.2 (atA pl (as.take j)).length := by
      unfold t3
      rw [e]
    have hok := (tk3_ok (bl := bl) (k := k) (v := v) as[j].2.2 (hW j _ e) _).1 ho2 (by rw [← ht]; exact of_decide_eq_true hw.2)
    rw [mk3, mkV, ih, ht, e]
    show _ = _ + if tkM pl as[j].2.1 bl k as[j].2.2 v = true then 2 ^ j else 0
    by_cases q : tkM pl as[j].2.1 bl k as[j].2.2 v = true
    · rw [if_pos q, if_pos (hok.mpr q)]
    · rw [if_neg q, if_neg (fun z => q (hok.mp z))]
theorem wh3_all {oc : Nat → Int} {at' : Nat} (hW : ∀ (j : Nat) y, as[j]? = some y → y.2.2 = .nil ∨ tsW kn pl y.2.2) (ha : (atA pl as).length ≤ at') : ∀ j, j ≤ as.length → wh3 bl k pl as oc at' j = true
  | 0, _ => rfl
  | j + 1, hj => by
    have ih := wh3_all (oc := oc) hW ha j (by omega)
    have e : as[j]? = some as[j] := List.getElem?_eq_getElem (by omega)
    obtain ⟨r, er⟩ := atA_pre pl as (j + 1)
    rw [atA_take pl as e] at er
    rw [er, List.length_append, List.length_append] at ha
    rw [wh3, ih, Bool.true_and, decide_eq_true_eq]
    unfold t3
    rw [e]
    exact (tk3_ok (bl := bl) (k := k) (v := fun _ => 0) as[j].2.2 (hW j _ e) _).2 (by omega)
theorem t3_le {oc : Nat → Int} {at' : Nat} (j : Nat) : t3 bl k pl as oc at' j ≤ 2 := by
  unfold t3
  split
  · exact tk3_le _ _
  · omega
theorem ExS.ex {σ τ : Sg} {n : Nat} (h : ExS kA bl k kn pl as σ) (g : ExF n σ τ) : ExS kA bl k kn pl as τ := by
  obtain ⟨h1, ⟨h2, h3, h4, h5, h6⟩, h7, h8, h9, h10, ⟨h11, h12⟩, h13, ⟨h14, h15⟩, h16, h17⟩ := h
  refine ⟨by rw [g.1, g.2.1]; exact h1, ⟨by rw [g.2.1]; exact h2, by rw [g.1]; exact h3, h4, h5, h6⟩, h7, fun i hi => ?_, h9, fun a b ha hb => ?_, ⟨(g.2.2.1 0 50 (by decide) (by decide) (by omega)).trans h11, h12⟩, fun j y hy => ?_, ⟨(g.2.2.1 0 47 (by decide) (by decide) (by omega)).trans h14, fun i A B C hi => ?_⟩, h16, h17⟩
  · rw [g.row h4 h6 h5]
    exact h8 i hi
  · rw [g.row (by omega) (by omega) (by omega)]
    exact h10 a b ha hb
  · obtain ⟨g1, g2, ⟨g3, ⟨g4, g5⟩, g6, g7⟩, g8⟩ := h13 j y hy
    refine ⟨by rw [g.row (by decide) (by decide) (by decide)]; exact g1, g2, ⟨g3, ?_, fun i hi => ?_, ?_⟩, g8⟩
    · rw [g.row (a := 2497 + 4 * y.1) (by omega) (by omega) (by omega), g.row (by omega) (by omega) (by omega)]
      exact ⟨g4, g5⟩
    · rw [g.row (by omega) (by omega) (by omega)]
      exact g6 i hi
    · rw [g.2.1]
      exact TsN.mono (fun y hy hys => ⟨hy, by rw [g.1]; exact hys, g.row (by have := nd_ge h1 hys; omega) (by have := nd_ge h1 hys; omega) (by have := nd_ge h1 hys; omega), g.2.2.2 y (by have := nd_ge h1 hys; omega), by rw [g.2.1]⟩) _ _ g7
  · rw [g.row (by decide) (by decide) (by decide), g.row (by decide) (by decide) (by decide), g.2.2.2 1936 (by omega)]
    exact h15 i A B C hi
theorem ExS.hx {σ : Sg} {at' : Nat} {oc : Nat → Int} (h : ExS kA bl k kn pl as σ) (h53 : σ.i 0 53 = Int32.ofNat at') (ha : at' ≤ 128) (ho : ∀ i, i < at' → σ.i 1935 i = Int32.ofInt (oc i) ∧ (-1 ≤ oc i ∧ oc i ≤ 1)) : HxS kA bl k kn pl at' oc σ := by
  obtain ⟨h1, ⟨h2, h3, h4, h5, h6⟩, h7, h8, h9, h10, -⟩ := h
  exact ⟨h1, ⟨h2, h3, h4⟩, h7, h8, h9, h10, ⟨h53, ha⟩, ho⟩
theorem bit_or : ∀ j : Fin 8, ∀ m : Fin 128, m.val < 2 ^ j.val → Int32.ofNat m.val ||| ((1 : Int32) <<< (Int32.ofNat j.val &&& 31)) = Int32.ofNat (m.val + 2 ^ j.val) := by decide +kernel
theorem bit_or' {j m : Nat} (hj : j < 8) (hm : m < 2 ^ j) : Int32.ofNat m ||| ((1 : Int32) <<< (Int32.ofNat j &&& 31)) = Int32.ofNat (m + 2 ^ j) := by
  have : 2 ^ j ≤ 2 ^ 7 := Nat.pow_le_pow_right (by decide) (by omega)
  exact bit_or ⟨j, hj⟩ ⟨m, by omega⟩ hm
theorem sh_2 : ∀ j : Fin 9, ((1 : Int32) <<< (Int32.ofNat j.val &&& 31)) = Int32.ofNat (2 ^ j.val) := by decide +kernel
theorem pw_8 {N : Nat} (h : N ≤ 8) : 2 ^ N ≤ 256 := Nat.pow_le_pow_right (show 0 < 2 by decide) h
theorem bdn_p : ∀ j : Fin 129, sh0R[1937 + 1 + j.val]? = some (Sh.arr 1 16) := by decide +kernel
theorem d_bd {D : Nat → Nat → Int} (h : dCl D) (h0 : ∀ i j, i < 4 → j < 4 → D i j ≤ d0 i j) : dBd D 1000000000000 := by
  have up : ∀ i j, i < 4 → j < 4 → D i j ≤ 4294967295 := fun i j hi hj => by
    have := h0 i j hi hj
    have : d0 i j ≤ 4294967295 := by
      unfold d0
      repeat' split
      all_goals omega
    omega
  intro i j hi hj
  have h1 := h.1 i hi
  have h2 := h.2 i j i hi hj hi
  have h3 := up i j hi hj
  have h4 := up j i hj hi
  omega
theorem dUp_le (D : Nat → Nat → Int) (a b : Nat) (c : Int) (i j : Nat) : dUp D a b c i j ≤ D i j := by
  unfold dUp
  split <;> omega
/-- a closed table has numbers -/
theorem d_ex {D : Nat → Nat → Int} (h : dCl D) : ∃ v, dSo D (vx v) := by
  obtain ⟨h1, h2⟩ := dCl_so h
  refine ⟨fun i => D (i + 1) 0, ?_⟩
  have e : vx (fun i => D (i + 1) 0) = fun k => D k 0 := by
    funext k
    unfold vx
    cases k with
    | zero => rw [if_pos rfl, h2]
    | succ k => rw [if_neg (by omega)]; rfl
  rw [e]
  exact h1
theorem sg3_m {z : Int} : sg3 z = -1 ↔ z ≤ -1 := by
  unfold sg3
  by_cases h : z < 0
  · rw [if_pos h]
    omega
  · rw [if_neg h]
    by_cases h0 : z = 0
    · rw [if_pos h0]
      omega
    · rw [if_neg h0]
      omega
theorem sg3_0 {z : Int} : sg3 z = 0 ↔ z = 0 := by
  unfold sg3
  by_cases h : z < 0
  · rw [if_pos h]
    omega
  · rw [if_neg h]
    by_cases h0 : z = 0
    · rw [if_pos h0]
      omega
    · rw [if_neg h0]
      omega
theorem sg3_1 {z : Int} : sg3 z = 1 ↔ 1 ≤ z := by
  unfold sg3
  by_cases h : z < 0
  · rw [if_pos h]
    omega
  · rw [if_neg h]
    by_cases h0 : z = 0
    · rw [if_pos h0]
      omega
    · rw [if_neg h0]
      omega
theorem sg3_r (z : Int) : -1 ≤ sg3 z ∧ sg3 z ≤ 1 := by
  unfold sg3
  split
  · omega
  · split <;> omega
theorem ocV_up {oc : Nat → Int} {at' : Nat} {v : Nat → Int} {L : List (Nat × Nat × Int)} {A B : Nat} {C o : Int} (hL : L[at']? = some (A, B, C)) : OcV (fun i => if i = at' then o else oc i) (at' + 1) v L 0 ↔ OcV oc at' v L 0 ∧ sg3 (vx v A - vx v B + C) = o := by
  constructor
  · intro h
    refine ⟨fun i A' B' C' hi hlt => ?_, ?_⟩
    · have := h i A' B' C' hi (by omega)
      dsimp only at this
      rw [if_neg (by omega)] at this
      exact this
    · have := h at' A B C hL (by omega)
      dsimp only at this
      rw [if_pos (by omega)] at this
      exact this.symm
  · rintro ⟨h1, h2⟩ i A' B' C' hi hlt
    dsimp only
    by_cases q : 0 + i = at'
    · have q' : i = at' := by omega
      subst q'
      rw [hL] at hi
      cases hi
      rw [if_pos q]
      exact h2.symm
    · rw [if_neg q]
      exact h1 i A' B' C' hi (by omega)
/-- explore(): all masks that numbers with these answers have -/
theorem rf_explore : ∀ (m at' : Nat) (σ : Sg) (D : Nat → Nat → Int) (oc : Nat → Int) (s : Nat → Bool) (K : kS) (d : Nat), (atA pl as).length - at' = m → at' ≤ (atA pl as).length → 30 + m ≤ d → ExS kA bl k kn pl as σ → (∀ i, i < at' → σ.i 1935 i = Int32.ofInt (oc i) ∧ (-1 ≤ oc i ∧ oc i ≤ 1)) → TbIs σ (1937 + 1 + at') D → dCl D → (∀ i j, i < 4 → j < 4 → D i j ≤ d0 i j) → (∀ v, dSo D (vx v) ↔ InR v ∧ OcV oc at' v (atA pl as) 0) → SeS as.length s σ →
    (∀ τ s', ExF at' σ τ → SeS as.length s' τ → (∀ q, q < 2 ^ as.length → (s' q = true ↔ s q = true ∨ ∃ v, InR v ∧ OcV oc at' v (atA pl as) 0 ∧ mkV pl bl k as v as.length = q)) → K (.inl none) τ) → B_X23_explore_0 Z d σ (Int32.ofNat at') K := by
  intro m
  induction m with
  | zero => ?_
  | succ m ihm => ?_
  all_goals
    intro at' σ D oc s K d hm hat hd H hoc hT hD hD0 hS hs h
    obtain ⟨d, rfl⟩ : ∃ e, d = e + 1 := ⟨d - 1, by omega⟩
    have hN := H.2.2.2.2.2.2.1
    have hp8 := pw_8 hN.2
    have hL128 := H.2.2.2.2.2.2.2.2.2.1
    have hW : ∀ (j : Nat) y, as[j]? = some y → y.2.2 = .nil ∨ tsW kn pl y.2.2 := fun j y hy => (H.2.2.2.2.2.2.2.1 j y hy).2.2.2.1
    have eN : ((1 : Int32) <<< ((σ.i 0 50) &&& 31)) = Int32.ofNat (2 ^ as.length) := by
      rw [hN.1]
      exact sh_2 ⟨as.length, by omega⟩
    have hcnt : (List.range (2 ^ as.length)).countP s ≤ 2 ^ as.length := by
      have := List.countP_le_length (p := s) (l := List.range (2 ^ as.length))
      rw [List.length_range] at this
      exact this
    refine S_X23_explore_0 H.1 ⟨fun hne => ?_, fun heq => ?_⟩
    rotate_left
    · -- all masks are seen
      rw [hs.2, eN, oN_eq (by omega) (by omega)] at heq
      have hall : ∀ q, q < 2 ^ as.length → s q = true := by
        have : (List.range (2 ^ as.length)).countP s = (List.range (2 ^ as.length)).length := by
          rw [heq, List.length_range]
        rw [List.countP_eq_length] at this
        exact fun q hq => this q (List.mem_range.mpr hq)
      exact h σ s (ExF.refl _ _) hs (fun q hq => ⟨fun z => Or.inl z, fun _ => hall q hq⟩)
    obtain ⟨σ1, hσ1⟩ : ∃ x, x = (σ.wi 0 48 (0 : Int32)).wi 0 53 (Int32.ofNat at') := ⟨_, rfl⟩
    rw [← hσ1]
    have g1 : ExF at' σ σ1 := by
      rw [hσ1]
      refine ⟨rfl, rfl, fun a j q1 _ _ => ?_, fun a _ => rfl⟩
      rw [wi_ne (by omega), wi_ne (by omega)]
    have e48 : σ1.i 0 48 = Int32.ofNat 0 := by
      rw [hσ1, wi_ne (by decide), wi_at]
      rfl
    have e53 : σ1.i 0 53 = Int32.ofNat at' := by
      rw [hσ1, wi_at]
    have H1 := H.ex g1
    have hoc1 : ∀ i, i < at' → σ1.i 1935 i = Int32.ofInt (oc i) ∧ (-1 ≤ oc i ∧ oc i ≤ 1) := fun i hi => by
      rw [g1.2.2.1 1935 i (by omega) (by decide) (by omega)]
      exact hoc i hi
    have X1 : HxS kA bl k kn pl at' oc σ1 := H1.hx e53 (by omega) hoc1
    have hs1 : SeS as.length s σ1 := by
      refine ⟨fun q hq => ?_, ?_⟩
      · rw [hσ1, wi_row (by decide), wi_row (by decide)]
        exact hs.1 q hq
      · rw [hσ1, wi_ne (by decide), wi_ne (by decide)]
        exact hs.2
    -- the loop over the methods asked
    have fin : ∀ τ, CuF σ1 τ → (wh3 bl k pl as oc at' as.length = false → B_X23_explore_151 Z (d + 1) τ (Int32.ofNat at') (τ.i 1933 at') (τ.i 1934 at') (τ.l 1936 at') (-1) K) → B_X23_explore_31 Z (d + 1) τ (Int32.ofNat at') (Int32.ofNat (mk3 bl k pl as oc at' as.length)) (if wh3 bl k pl as oc at' as.length = true then 1 else 0) (Int32.ofNat as.length) K := by
      intro τ g hno
      have gE := g1.tr (g.ex at')
      have Hτ := H.ex gE
      have hmk := mk3_lt (bl := bl) (k := k) (pl := pl) (as := as) (oc := oc) (at' := at') as.length
      have ib256 : ib (Int32.ofNat (mk3 bl k pl as oc at' as.length)) 256 := ib_oN (by omega) (by decide)
      refine S_X23_explore_31 Hτ.1 ⟨fun _ => ⟨fun q => ?_, fun q => ?_⟩, fun q => absurd (by rw [Hτ.2.2.2.2.2.2.1.1]; exact Int32.le_refl _) q⟩
      · have hw : wh3 bl k pl as oc at' as.length = false := by
          cases hw : wh3 bl k pl as oc at' as.length with
          | false => rfl
          | true =>
            rw [hw, if_pos rfl] at q
            exact absurd q (by decide)
        have hlt : at' < (atA pl as).length := by
          refine Nat.lt_of_not_le fun z => ?_
          rw [wh3_all hW z as.length (Nat.le_refl _)] at hw
          cases hw
        have ib128 : ib (Int32.ofNat at') 128 := ib_oN (by omega) (by decide)
        refine ⟨ib128, ib128, ib128, ?_⟩
        rw [oN_t (by omega)]
        exact hno hw
      · have hw : wh3 bl k pl as oc at' as.length = true := by
          cases hw : wh3 bl k pl as oc at' as.length with
          | true => rfl
          | false =>
            rw [hw] at q
            exact absurd rfl q
        obtain ⟨v0, hv0⟩ := d_ex hD
        have hv0 := (hS v0).mp hv0
        have hmask : ∀ q, q < 2 ^ as.length → (q = mk3 bl k pl as oc at' as.length ↔ ∃ v, InR v ∧ OcV oc at' v (atA pl as) 0 ∧ mkV pl bl k as v as.length = q) := by
          intro q hq
          constructor
          · intro e
            exact ⟨v0, hv0.1, hv0.2, by rw [e]; exact (wh3_ok hW hv0.2 as.length (Nat.le_refl _) hw).symm⟩
          · rintro ⟨v, -, hv, e⟩
            rw [← e]
            exact (wh3_ok hW hv as.length (Nat.le_refl _) hw).symm
        rw [oN_t (by omega)]
        have h2068 : ∀ q, q < 2 ^ as.length → τ.i 2068 q = if s q = true then 1 else 0 := fun q hq => by
          rw [g.row (by decide)]
          exact hs1.1 q hq
        have h54 : τ.i 0 54 = Int32.ofNat ((List.range (2 ^ as.length)).countP s) := (g.2.2.2 0 54 (by decide)).trans hs1.2
        have nar : vp_nar .boolean (1 : Int32) = 1 := by decide
        refine ⟨ib256, fun z => ⟨ib256, ?_⟩, fun z => ⟨ib256, ?_⟩⟩
        · have hsm : s (mk3 bl k pl as oc at' as.length) = true := by
            rw [h2068 _ hmk] at z
            cases hsq : s (mk3 bl k pl as oc at' as.length) with
            | true => rfl
            | false =>
              rw [hsq] at z
              exact absurd rfl z
          rw [nar]
          refine h _ s (gE.tr ⟨rfl, rfl, fun a j _ q2 _ => wi_ne (fun y => q2 y.1), fun a _ => rfl⟩) ⟨fun q hq => ?_, ?_⟩ (fun q hq => ?_)
          · rw [wi_i]
            by_cases y : (2068 : Nat) = 2068 ∧ q = mk3 bl k pl as oc at' as.length
            · rw [if_pos y, y.2, hsm]
              rfl
            · rw [if_neg y]
              exact h2068 q hq
          · rw [wi_ne (by omega)]
            exact h54
          · rw [← hmask q hq]
            constructor
            · exact fun y => Or.inl y
            · rintro (y | y)
              · exact y
              · rw [y]
                exact hsm
        · have hsm : s (mk3 bl k pl as oc at' as.length) = false := by
            rw [h2068 _ hmk] at z
            cases hsq : s (mk3 bl k pl as oc at' as.length) with
            | false => rfl
            | true =>
              rw [hsq] at z
              exact absurd z (by decide)
          rw [nar]
          refine h _ (fun q => s q || decide (q = mk3 bl k pl as oc at' as.length)) (gE.tr ⟨rfl, rfl, fun a j q1 q2 _ => ?_, fun a _ => rfl⟩) ⟨fun q hq => ?_, ?_⟩ (fun q hq => ?_)
          · rw [wi_ne (fun y => q2 y.1), wi_ne (by omega)]
          · rw [wi_i]
            by_cases y : (2068 : Nat) = 2068 ∧ q = mk3 bl k pl as oc at' as.length
            · rw [if_pos y, y.2, if_pos]
              simp
            · rw [if_neg y, wi_row (by decide), h2068 q hq]
              have : q ≠ mk3 bl k pl as oc at' as.length := fun y' => y ⟨rfl, y'⟩
              simp [this]
          · rw [wi_ne (by omega), wi_at, h54, oN_1]
            congr 1
            have key : ∀ (n : Nat) (p : Nat), p < n → s p = false → (List.range n).countP (fun q => s q || decide (q = p)) = (List.range n).countP s + 1 := by
              intro n
              induction n with
              | zero => intro p hp; omega
              | succ n ih =>
                intro p hp hsp
                rw [List.range_succ, List.countP_append, List.countP_append, List.countP_cons, List.countP_cons, List.countP_nil, List.countP_nil]
                by_cases e : p = n
                · subst e
                  have : (List.range p).countP (fun q => s q || decide (q = p)) = (List.range p).countP s := by
                    refine List.countP_congr fun q hq => ?_
                    have := List.mem_range.mp hq
                    have : q ≠ p := by omega
                    simp [this]
                  rw [this]
                  simp [hsp]
                · rw [ih p (by omega) hsp]
                  have : n ≠ p := fun y => e y.symm
                  simp only [this, decide_false, Bool.or_false]
                  omega
            exact (key _ _ hmk hsm).symm
          · rw [Bool.or_eq_true, decide_eq_true_eq, hmask q hq]
    have loop : ∀ r j (τ : Sg), as.length - j = r → j ≤ as.length → CuF σ1 τ → τ.i 0 48 = Int32.ofNat (atA pl (as.take j)).length → (∀ τ, CuF σ1 τ → (wh3 bl k pl as oc at' as.length = false → B_X23_explore_151 Z (d + 1) τ (Int32.ofNat at') (τ.i 1933 at') (τ.i 1934 at') (τ.l 1936 at') (-1) K)) → B_X23_explore_31 Z (d + 1) τ (Int32.ofNat at') (Int32.ofNat (mk3 bl k pl as oc at' j)) (if wh3 bl k pl as oc at' j = true then 1 else 0) (Int32.ofNat j) K := by
      intro r
      induction r with
      | zero =>
        intro j τ hr hj g _ hno
        have e : j = as.length := by omega
        subst e
        exact fin τ g (hno τ g)
      | succ r ih =>
        intro j τ hr hj g hc hno
        have hlt : j < as.length := by omega
        have e : as[j]? = some as[j] := List.getElem?_eq_getElem hlt
        have Hτ := H.ex (g1.tr (g.ex at'))
        obtain ⟨a1, a2, a3, a4, a5⟩ := Hτ.2.2.2.2.2.2.2.1 j _ e
        have Xτ := X1.cu g
        obtain ⟨r1, er⟩ := atA_pre pl as (j + 1)
        have et := atA_take pl as e
        have hle : (atA pl (as.take j)).length + (atM pl as[j].2.1 as[j].2.2).length ≤ 128 := by
          rw [er, et, List.length_append, List.length_append] at hL128
          omega
        refine S_X23_explore_31 Hτ.1 ⟨fun q => ?_, fun _ => ⟨ib_oN (by omega) (by decide), ?_, ?_⟩⟩
        · exfalso
          rw [Hτ.2.2.2.2.2.2.1.1, oN_le (by omega) (by omega)] at q
          omega
        · rw [oN_t (by omega), a1]
          exact ib_oN (by omega) (by decide)
        · rw [oN_t (by omega), a1, oN_t (by omega)]
          refine rf_takes a4 (by omega) (by omega) Xτ a3 hc hle (fun υ g2 c2 => ?_)
          have ht : tk3 pl as[j].2.1 oc at' bl k as[j].2.2 (atA pl (as.take j)).length = t3 bl k pl as oc at' j := by
            unfold t3
            rw [e]
          rw [ht]
          have Hυ := H.ex (g1.tr ((g.tr g2).ex at'))
          have tl := t3_le (bl := bl) (k := k) (pl := pl) (as := as) (oc := oc) (at' := at') j
          have c3 : υ.i 0 48 = Int32.ofNat (atA pl (as.take (j + 1))).length := by
            rw [c2, et, List.length_append]
          have nx := ih (j + 1) υ (by omega) (by omega) (g.tr g2) c3 hno
          have hmk := mk3_lt (bl := bl) (k := k) (pl := pl) (as := as) (oc := oc) (at' := at') j
          have go : ∀ w : Bool, wh3 bl k pl as oc at' (j + 1) = w → B_X23_explore_73 Z (d + 1) υ (Int32.ofNat at') (Int32.ofNat (mk3 bl k pl as oc at' j)) (Int32.ofNat j) (Int32.ofNat (t3 bl k pl as oc at' j)) (if w = true then 1 else 0) K := by
            intro w hw
            rw [hw] at nx
            refine S_X23_explore_73 Hυ.1 ⟨fun z => ?_, fun z => ?_⟩
            · have z0 : t3 bl k pl as oc at' j ≠ 1 := fun y => z (by rw [y]; rfl)
              rw [mk3, if_neg z0] at nx
              rw [oN_1]
              exact nx
            · have z0 : t3 bl k pl as oc at' j = 1 := by
                rw [show (1 : Int32) = Int32.ofNat 1 from rfl, oN_eq (by omega) (by omega)] at z
                exact z
              rw [mk3, if_pos z0] at nx
              rw [oN_1, bit_or' (by omega) hmk]
              exact nx
          refine ⟨fun z => ?_, fun z => ⟨fun y => ?_, fun y => ?_⟩⟩
          · have hw : wh3 bl k pl as oc at' j = false := by
              cases hw : wh3 bl k pl as oc at' j with
              | false => rfl
              | true =>
                rw [hw, if_pos rfl] at z
                exact absurd z (by decide)
            exact S_X23_explore_72 Hυ.1 (go false (by rw [wh3, hw, Bool.false_and]))
          · have y0 : t3 bl k pl as oc at' j = 2 := by
              rw [show (2 : Int32) = Int32.ofNat 2 from rfl, oN_eq (by omega) (by omega)] at y
              exact y
            exact S_X23_explore_72 Hυ.1 (go false (by rw [wh3, y0]; simp))
          · have y0 : t3 bl k pl as oc at' j ≠ 2 := fun q => y (by rw [q]; rfl)
            have hw : wh3 bl k pl as oc at' j = true := by
              cases hw : wh3 bl k pl as oc at' j with
              | true => rfl
              | false =>
                rw [hw] at z
                exact absurd rfl z
            exact go true (by rw [wh3, hw, Bool.true_and, decide_eq_true_eq]; exact y0)
    refine loop as.length 0 σ1 (by omega) (Nat.zero_le _) (CuF.refl σ1) e48 ?_
    clear loop fin
    intro τ0 gc hw
    have hlt : at' < (atA pl as).length := by
      refine Nat.lt_of_not_le fun z => ?_
      rw [wh3_all hW z as.length (Nat.le_refl _)] at hw
      cases hw
  · exfalso
    omega
  · obtain ⟨⟨A, B, C⟩, hABC⟩ : ∃ y, (atA pl as)[at']? = some y := ⟨_, List.getElem?_eq_getElem hlt⟩
    have hq := H.2.2.2.2.2.2.2.2.2.2 _ (List.mem_of_getElem? hABC)
    obtain ⟨hA, hB, hC⟩ := hq
    have g0 : ExF at' σ τ0 := g1.tr (gc.ex at')
    obtain ⟨a1, a2, a3⟩ := (H.ex g0).2.2.2.2.2.2.2.2.1.2 at' A B C hABC
    rw [a1, a2]
    generalize hc6 : τ0.l 1936 at' = c6 at a3 ⊢
    have n1 : (-c6).toInt = -C := by
      rw [i64_neg (by rw [a3]; dsimp only at hC; omega), a3]
    have s1 : ∀ x : Int64, -4294967296 ≤ x.toInt → (x - 1).toInt = x.toInt - 1 := fun x hx => by
      have := Int64.toInt_lt x
      rw [Int64.toInt_sub, show (1 : Int64).toInt = 1 from rfl, Int.bmod_def]
      omega
    dsimp only at hA hB hC
    have hs0 : SeS as.length s τ0 := by
      refine ⟨fun q hq => ?_, (gc.2.2.2 0 54 (by decide)).trans hs1.2⟩
      rw [gc.row (by decide)]
      exact hs1.1 q hq
    have eqT : ∀ {υ : Sg}, ExF at' σ υ → TbIs υ (1937 + 1 + at') D ∧ ∀ i, i < at' → υ.i 1935 i = Int32.ofInt (oc i) ∧ (-1 ≤ oc i ∧ oc i ≤ 1) := fun {υ} g => by
      refine ⟨fun i j hi hj => ?_, fun i hi => ?_⟩
      · rw [g.2.2.2 (1937 + 1 + at') (by omega)]
        exact hT i j hi hj
      · rw [g.2.2.1 1935 i (by omega) (by decide) (by omega)]
        exact hoc i hi
    have ib129 : ib (Int32.ofNat at' + 1) 129 := by
      rw [oN_1]
      exact ib_oN (by omega) (by decide)
    -- one answer
    have step : ∀ (o o' : Int), o' = o + 1 → -1 ≤ o → o ≤ 1 → (∀ υ s', ExF at' σ υ → SeS as.length s' υ → (∀ q, q < 2 ^ as.length → (s' q = true ↔ s q = true ∨ ∃ v, InR v ∧ OcV oc at' v (atA pl as) 0 ∧ sg3 (vx v A - vx v B + C) < o' ∧ mkV pl bl k as v as.length = q)) → B_X23_explore_151 Z (d + 1) υ (Int32.ofNat at') (Int32.ofNat A) (Int32.ofNat B) c6 (Int32.ofInt o') K) → ∀ υ s', ExF at' σ υ → SeS as.length s' υ → (∀ q, q < 2 ^ as.length → (s' q = true ↔ s q = true ∨ ∃ v, InR v ∧ OcV oc at' v (atA pl as) 0 ∧ sg3 (vx v A - vx v B + C) < o ∧ mkV pl bl k as v as.length = q)) → B_X23_explore_151 Z (d + 1) υ (Int32.ofNat at') (Int32.ofNat A) (Int32.ofNat B) c6 (Int32.ofInt o) K := by
      intro o o' ho' ho1 ho2 hn υ s' gυ hsυ hsq
      have Hυ := H.ex gυ
      have o1 : Int32.ofInt o + 1 = Int32.ofInt o' := by
        rw [ho', Int32.ofInt_add]
        rfl
      have oi : (Int32.ofInt o).toInt = o := by
        rcases i3_cases ⟨ho1, ho2⟩ with z | z | z <;> rw [z] <;> rfl
      refine S_X23_explore_151 Hυ.1 ⟨fun z => ?_, fun _ => ?_⟩
      · exfalso
        rw [Int32.lt_iff_toInt_lt, oi] at z
        have z : (1 : Int) < o := z
        omega
      -- no numbers there
      have no : ∀ φ : Sg, ExF at' υ φ → (∀ q, q < 2 ^ as.length → φ.i 2068 q = υ.i 2068 q) → φ.i 0 54 = υ.i 0 54 → (∀ v, InR v → OcV oc at' v (atA pl as) 0 → sg3 (vx v A - vx v B + C) ≠ o) → B_X23_explore_299 Z (d + 1) φ (Int32.ofNat at') (Int32.ofNat A) (Int32.ofNat B) c6 (Int32.ofInt o) 0 K := by
        intro φ g f1 f2 hno
        refine S_X23_explore_299 (H.ex (gυ.tr g)).1 ⟨fun z => absurd rfl z, fun _ => ?_⟩
        rw [o1]
        refine hn φ s' (gυ.tr g) ⟨fun q hq => (f1 q hq).trans (hsυ.1 q hq), f2.trans hsυ.2⟩ (fun q hq => ?_)
        rw [hsq q hq]
        refine or_congr Iff.rfl ⟨?_, ?_⟩
        · rintro ⟨v, b1, b2, b3, b4⟩
          exact ⟨v, b1, b2, by omega, b4⟩
        · rintro ⟨v, b1, b2, b3, b4⟩
          exact ⟨v, b1, b2, by have := hno v b1 b2; omega, b4⟩
      -- numbers there
      have yes : ∀ (φ : Sg) (D' : Nat → Nat → Int), ExF at' υ φ → (∀ q, q < 2 ^ as.length → φ.i 2068 q = υ.i 2068 q) → φ.i 0 54 = υ.i 0 54 → TbIs φ (1937 + 1 + (at' + 1)) D' → dCl D' → (∀ i j, i < 4 → j < 4 → D' i j ≤ d0 i j) → (∀ v, dSo D' (vx v) ↔ dSo D (vx v) ∧ sg3 (vx v A - vx v B + C) = o) → B_X23_explore_299 Z (d + 1) φ (Int32.ofNat at') (Int32.ofNat A) (Int32.ofNat B) c6 (Int32.ofInt o) 1 K := by
        intro φ D' g f1 f2 hT' hD' hD0' hS'
        have gφ := gυ.tr g
        refine S_X23_explore_299 (H.ex gφ).1 ⟨fun _ => ⟨ib_oN (by omega) (by decide), ?_⟩, fun z => absurd z (by decide)⟩
        rw [oN_t (by omega), oN_1]
        have gw : ExF at' φ (φ.wi 1935 at' (Int32.ofInt o)) := ⟨rfl, rfl, fun a j _ _ q3 => wi_ne (fun y => q3 ⟨y.1, by omega⟩), fun a _ => rfl⟩
        refine ihm (at' + 1) _ D' (fun i => if i = at' then o else oc i) s' _ d (by omega) (by omega) (by omega) (H.ex (gφ.tr gw)) (fun i hi => ?_) hT' hD' hD0' (fun v => ?_) ⟨fun q hq => ?_, ?_⟩ (fun ψ s3 g3 hs3 hq3 => ?_)
        · by_cases q : i = at'
          · rw [if_pos q, q, wi_at]
            exact ⟨rfl, ho1, ho2⟩
          · rw [if_neg q, wi_ne (by omega)]
            exact (eqT gφ).2 i (by omega)
        · rw [hS' v, hS v, ocV_up hABC, and_assoc]
        · rw [wi_row (by decide)]
          exact (f1 q hq).trans (hsυ.1 q hq)
        · rw [wi_ne (by omega)]
          exact f2.trans hsυ.2
        · show B_X23_explore_151 Z (d + 1) ψ (Int32.ofNat at') (Int32.ofNat A) (Int32.ofNat B) c6 (Int32.ofInt o + 1) K
          rw [o1]
          refine hn ψ s3 ((gφ.tr gw).tr (g3.le (by omega))) hs3 (fun q hq => ?_)
          rw [hq3 q hq, hsq q hq]
          constructor
          · rintro ((b | ⟨v, b1, b2, b3, b4⟩) | ⟨v, b1, b2, b3⟩)
            · exact Or.inl b
            · exact Or.inr ⟨v, b1, b2, by omega, b4⟩
            · rw [ocV_up hABC] at b2
              exact Or.inr ⟨v, b1, b2.1, by omega, b3⟩
          · rintro (b | ⟨v, b1, b2, b3, b4⟩)
            · exact Or.inl (Or.inl b)
            · by_cases e : sg3 (vx v A - vx v B + C) = o
              · exact Or.inr ⟨v, b1, by rw [ocV_up hABC]; exact ⟨b2, e⟩, b4⟩
              · exact Or.inl (Or.inr ⟨v, b1, b2, by omega, b4⟩)
      -- the table is copied
      have cp : ∀ r c (φ : Sg), 16 - c = r → c ≤ 16 → FrS (1937 + 1 + (at' + 1)) υ φ → (∀ x, x < c → φ.l (1937 + 1 + (at' + 1)) x = υ.l (1937 + 1 + at') x) → (∀ φ : Sg, FrS (1937 + 1 + (at' + 1)) υ φ → TbIs φ (1937 + 1 + (at' + 1)) D → B_X23_explore_160 Z (d + 1) φ (Int32.ofNat at') (Int32.ofNat A) (Int32.ofNat B) c6 (Int32.ofInt o) (Int32.ofNat 16) K) → B_X23_explore_160 Z (d + 1) φ (Int32.ofNat at') (Int32.ofNat A) (Int32.ofNat B) c6 (Int32.ofInt o) (Int32.ofNat c) K := by
        intro r
        induction r with
        | zero =>
          intro c φ hr hc hf hx hfin
          have e : c = 16 := by omega
          subst e
          refine hfin φ hf (fun i j hi hj => ?_)
          rw [hx _ (by omega)]
          exact (eqT gυ).1 i j hi hj
        | succ r ih =>
          intro c φ hr hc hf hx hfin
          have Fφ : FX ΦR φ.sh φ.r := by rw [hf.1, hf.2.2.1]; exact Hυ.1
          refine S_X23_explore_160 Fφ ⟨fun z => ?_, fun _ => ⟨ib129, ib_oN (by omega) (by decide), ib_oN (by omega) (by decide), ib_oN (by omega) (by decide), ?_⟩⟩
          · exfalso
            rw [show (16 : Int32) = Int32.ofNat 16 from rfl, oN_le (by omega) (by omega)] at z
            omega
          · rw [oN_1, oN_t (by omega), oN_t (by omega), oN_t (by omega), oN_1]
            refine ih (c + 1) _ (by omega) (by omega) ⟨hf.1, hf.2.1, hf.2.2.1, fun a ha => ?_⟩ (fun x hx1 => ?_) hfin
            · exact (funext fun j => by rw [wl_l, if_neg (fun y => ha y.1)]).trans (hf.2.2.2 a ha)
            · rw [wl_l]
              by_cases y : x = c
              · rw [if_pos ⟨rfl, y⟩, y, hf.2.2.2 _ (by omega)]
              · rw [if_neg (fun z => y z.2)]
                exact hx x (by omega)
      refine cp 16 0 υ rfl (by omega) ⟨rfl, rfl, rfl, fun _ _ => rfl⟩ (fun x hx => by omega) (fun φ hf hTφ => ?_)
      have Fφ : FX ΦR φ.sh φ.r := by rw [hf.1, hf.2.2.1]; exact Hυ.1
      have gE : ∀ ψ : Sg, FrS (1937 + 1 + (at' + 1)) υ ψ → ExF at' υ ψ := fun ψ hψ => ⟨hψ.1, hψ.2.2.1, fun a j _ _ _ => by rw [hψ.2.1], fun a ha => hψ.2.2.2 a (fun y => ha (by omega))⟩
      have f1 : ∀ ψ : Sg, FrS (1937 + 1 + (at' + 1)) υ ψ → (∀ q, q < 2 ^ as.length → ψ.i 2068 q = υ.i 2068 q) := fun ψ hψ q _ => by rw [hψ.2.1]
      have f2 : ∀ ψ : Sg, FrS (1937 + 1 + (at' + 1)) υ ψ → ψ.i 0 54 = υ.i 0 54 := fun ψ hψ => by rw [hψ.2.1]
      have frT : ∀ {a b : Sg}, FrS (1937 + 1 + (at' + 1)) υ a → FrS (1937 + 1 + (at' + 1)) a b → FrS (1937 + 1 + (at' + 1)) υ b := fun {a b} p q => ⟨q.1.trans p.1, q.2.1.trans p.2.1, q.2.2.1.trans p.2.2.1, fun x hx => (q.2.2.2 x hx).trans (p.2.2.2 x hx)⟩
      have oN1 : (Int32.ofNat at' + (1 : Int32)).toNatClampNeg = at' + 1 := by rw [oN_1, oN_t (by omega)]
      have hB1 := d_bd hD hD0
      refine S_X23_explore_160 Fφ ⟨fun _ => ⟨fun hne => ?_, fun heq => ?_⟩, fun z => absurd (by decide) z⟩
      · -- two terms
        have pb := bdn_p ⟨at' + 1, by omega⟩
        have solA : ∀ v, vx v A - vx v B + C ≤ -1 ↔ vx v A - vx v B ≤ (-c6 - 1).toInt := fun v => by
          rw [s1 _ (by rw [n1]; omega), n1]
          omega
        have b257 : 0 ≤ o → ∀ (ψ : Sg) (D1 : Nat → Nat → Int), FrS (1937 + 1 + (at' + 1)) υ ψ → TbIs ψ (1937 + 1 + (at' + 1)) D1 → dCl D1 → (∀ i j, i < 4 → j < 4 → D1 i j ≤ d0 i j) → (∀ v, dSo D1 (vx v) ↔ dSo D (vx v) ∧ (o = 0 → vx v A - vx v B ≤ -C)) → B_X23_explore_257 Z (d + 1) ψ (Int32.ofNat at') (Int32.ofNat A) (Int32.ofNat B) c6 (Int32.ofInt o) K := by
          intro hpos ψ D1 hψ hT1 hD1 hD10 hS1
          have Fψ : FX ΦR ψ.sh ψ.r := by rw [hψ.1, hψ.2.2.1]; exact Hυ.1
          have hB2 := d_bd hD1 hD10
          have go : ∀ x : Int64, x.toInt = (if o = 0 then C else C - 1) → B_X23_explore_288 Z (d + 1) ψ (Int32.ofNat at') (Int32.ofNat A) (Int32.ofNat B) c6 (Int32.ofInt o) (1937 + 1 + (at' + 1)) (Int32.ofNat B) (Int32.ofNat A) x K := by
            intro x hx
            have hxb : -1000000000000 ≤ x.toInt ∧ x.toInt ≤ 1000000000000 := by
              rw [hx]
              split <;> omega
            have sol : ∀ v, dSo D1 (vx v) → (vx v B - vx v A ≤ x.toInt ↔ sg3 (vx v A - vx v B + C) = o) := fun v hv => by
              have h0 := ((hS1 v).mp hv).2
              rw [hx]
              rcases (by omega : o = 0 ∨ o = 1) with e | e
              · have h0 := h0 e
                rw [if_pos e, e, sg3_0]
                omega
              · rw [if_neg (by omega), e, sg3_1]
                omega
            obtain ⟨d, rfl⟩ : ∃ e, d = e + 1 := ⟨d - 1, by omega⟩
            refine S_X23_explore_288 Fψ pb (rf_bound Fψ pb hB hA hT1 hB2 hxb.1 hxb.2 (fun hno => ⟨fun _ => ?_, fun z => absurd rfl z⟩) (fun hyes ω Fω hω hTω => ⟨fun z => absurd z (by decide), fun _ => ?_⟩))
            · refine S_X23_explore_298 Fψ (no ψ (gE ψ hψ) (f1 ψ hψ) (f2 ψ hψ) (fun v hv1 hv2 e => ?_))
              have hvD := (hS v).mpr ⟨hv1, hv2⟩
              have hv1 : dSo D1 (vx v) := (hS1 v).mpr ⟨hvD, fun e0 => by
                rw [e0, sg3_0] at e
                omega⟩
              exact d_no hB hA hno hv1 ((sol v hv1).mpr e)
            · refine S_X23_explore_294 Fω (yes ω (dUp D1 B A x.toInt) (gE ω (frT hψ hω)) (f1 ω (frT hψ hω)) (f2 ω (frT hψ hω)) hTω (dUp_cl hD1 hB hA hyes) (fun i j hi hj => Int.le_trans (dUp_le ..) (hD10 i j hi hj)) (fun v => ?_))
              rw [dUp_so hD1 hB hA]
              constructor
              · rintro ⟨y1, y2⟩
                exact ⟨((hS1 v).mp y1).1, (sol v y1).mp y2⟩
              · rintro ⟨y1, y2⟩
                have y3 : dSo D1 (vx v) := (hS1 v).mpr ⟨y1, fun e0 => by
                  rw [e0, sg3_0] at y2
                  omega⟩
                exact ⟨y3, (sol v y3).mpr y2⟩
          refine S_X23_explore_257 Fψ ⟨fun z => ?_, fun _ => ⟨ib129, fun z => ?_, fun z => ?_⟩⟩
          · exfalso
            rw [Int32.lt_iff_toInt_lt, oi] at z
            have z : o < 0 := z
            omega
          · rw [Int32.le_iff_toInt_le, oi] at z
            have z : o ≤ 0 := z
            rw [oN1]
            exact go c6 (by rw [if_pos (by omega), a3])
          · rw [Int32.le_iff_toInt_le, oi] at z
            have z : ¬ o ≤ 0 := z
            rw [oN1]
            exact go (c6 - 1) (by rw [if_neg (by omega), s1 _ (by rw [a3]; omega), a3])
        refine ⟨fun z => ?_, fun z => ⟨ib129, fun y => ?_, fun y => ?_⟩⟩
        · -- o = 1
          rw [Int32.lt_iff_toInt_lt, oi] at z
          have z : 0 < o := z
          exact b257 (by omega) φ D hf hTφ hD hD0 (fun v => ⟨fun y => ⟨y, fun e => by omega⟩, fun y => y.1⟩)
        · -- o = 0
          rw [Int32.lt_iff_toInt_lt, oi] at z
          rw [Int32.le_iff_toInt_le, oi] at y
          have z : ¬ 0 < o := z
          have y : 0 ≤ o := y
          have e0 : o = 0 := by omega
          rw [oN1]
          obtain ⟨d, rfl⟩ : ∃ e, d = e + 1 := ⟨d - 1, by omega⟩
          refine S_X23_explore_251 Fφ pb (rf_bound Fφ pb hA hB hTφ hB1 (by rw [n1]; omega) (by rw [n1]; omega) (fun hno => ⟨fun _ => ?_, fun z => absurd rfl z⟩) (fun hyes ω Fω hω hTω => ⟨fun z => absurd z (by decide), fun _ => ?_⟩))
          · refine S_X23_explore_298 Fφ (no φ (gE φ hf) (f1 φ hf) (f2 φ hf) (fun v hv1 hv2 e => ?_))
            refine d_no hA hB hno ((hS v).mpr ⟨hv1, hv2⟩) ?_
            rw [e0, sg3_0] at e
            rw [n1]
            omega
          · refine b257 y ω _ (frT hf hω) hTω (dUp_cl hD hA hB hyes) (fun i j hi hj => Int.le_trans (dUp_le ..) (hD0 i j hi hj)) (fun v => ?_)
            rw [dUp_so hD hA hB, n1]
            exact ⟨fun q => ⟨q.1, fun _ => q.2⟩, fun q => ⟨q.1, q.2 e0⟩⟩
        · -- o = -1
          rw [Int32.le_iff_toInt_le, oi] at y
          have y : ¬ 0 ≤ o := y
          have e0 : o = -1 := by omega
          rw [oN1]
          have en : (-c6 - 1).toInt = -C - 1 := by rw [s1 _ (by rw [n1]; omega), n1]
          obtain ⟨d, rfl⟩ : ∃ e, d = e + 1 := ⟨d - 1, by omega⟩
          refine S_X23_explore_251 Fφ pb (rf_bound Fφ pb hA hB hTφ hB1 (by rw [en]; omega) (by rw [en]; omega) (fun hno => ⟨fun _ => ?_, fun z => absurd rfl z⟩) (fun hyes ω Fω hω hTω => ⟨fun z => absurd z (by decide), fun _ => ?_⟩))
          · refine S_X23_explore_298 Fφ (no φ (gE φ hf) (f1 φ hf) (f2 φ hf) (fun v hv1 hv2 e => ?_))
            refine d_no hA hB hno ((hS v).mpr ⟨hv1, hv2⟩) ?_
            rw [e0, sg3_m] at e
            rw [en]
            omega
          · refine S_X23_explore_257 Fω ⟨fun _ => S_X23_explore_294 Fω (yes ω _ (gE ω (frT hf hω)) (f1 ω (frT hf hω)) (f2 ω (frT hf hω)) hTω (dUp_cl hD hA hB hyes) (fun i j hi hj => Int.le_trans (dUp_le ..) (hD0 i j hi hj)) (fun v => ?_)), fun z => ?_⟩
            · rw [dUp_so hD hA hB, en, e0, sg3_m]
              refine and_congr Iff.rfl ?_
              omega
            · exfalso
              rw [Int32.lt_iff_toInt_lt, oi] at z
              have z : ¬ o < 0 := z
              omega
      · -- one term: only its number counts
        rw [oN_eq (by omega) (by omega)] at heq
        subst heq
        obtain ⟨d, rfl⟩ : ∃ e, d = e + 1 := ⟨d - 1, by omega⟩
        refine S_J13_signum_95d88_0 Fφ ?_
        rw [sg_eq (by rw [a3]; omega), a3]
        have hz : ∀ v, sg3 (vx v A - vx v A + C) = sg3 C := fun v => by
          rw [show vx v A - vx v A + C = C by omega]
        have hr := sg3_r C
        refine ⟨fun z => ?_, fun z => ?_⟩
        · refine no φ (gE φ hf) (f1 φ hf) (f2 φ hf) (fun v _ _ e => z ?_)
          rw [hz v] at e
          rw [e]
        · have e : sg3 C = o := by
            have := congrArg Int32.toInt z
            rw [oi] at this
            rcases i3_cases hr with q | q | q <;> rw [q] at this ⊢ <;> exact this
          refine yes φ D (gE φ hf) (f1 φ hf) (f2 φ hf) hTφ hD hD0 (fun v => ?_)
          rw [hz v]
          exact ⟨fun q => ⟨q, e⟩, fun q => q.1⟩
    -- all three
    have last : ∀ υ s', ExF at' σ υ → SeS as.length s' υ → (∀ q, q < 2 ^ as.length → (s' q = true ↔ s q = true ∨ ∃ v, InR v ∧ OcV oc at' v (atA pl as) 0 ∧ sg3 (vx v A - vx v B + C) < 2 ∧ mkV pl bl k as v as.length = q)) → B_X23_explore_151 Z (d + 1) υ (Int32.ofNat at') (Int32.ofNat A) (Int32.ofNat B) c6 (Int32.ofInt 2) K := by
      intro υ s' gυ hsυ hsq
      refine S_X23_explore_151 (H.ex gυ).1 ⟨fun _ => h υ s' gυ hsυ (fun q hq => ?_), fun z => absurd (by decide) z⟩
      rw [hsq q hq]
      refine or_congr Iff.rfl ⟨?_, ?_⟩
      · rintro ⟨v, b1, b2, -, b4⟩
        exact ⟨v, b1, b2, b4⟩
      · rintro ⟨v, b1, b2, b4⟩
        exact ⟨v, b1, b2, by have := sg3_r (vx v A - vx v B + C); omega, b4⟩
    refine step (-1) 0 rfl (by omega) (by omega) (step 0 1 rfl (by omega) (by omega) (step 1 2 rfl (by omega) (by omega) last)) τ0 s g0 hs0 (fun q hq => ?_)
    constructor
    · exact fun y => Or.inl y
    · rintro (y | ⟨v, -, -, b3, -⟩)
      · exact y
      · exfalso
        have := sg3_r (vx v A - vx v B + C)
        omega
end EXPL

/-! THE REFERENCE: ran, word, below, row, nearer, call, run, drop -/
section CALLS2
variable {Z : zT} {d : Nat} {W : Wld} {pg : Ast} {t : Nat → Int32} {n wy ch fuel rs : Nat} {rn : Option (Rs × Es)} {res : List Nat} {q : Nat} {σ τ : Sg} {K : kS}
theorem RfA.keepR {res' : List Nat} (h : RfA W pg t n wy ch fuel rs rn res q σ) (hs : τ.sh = σ.sh) (hl : τ.l = σ.l) (hr : τ.r = σ.r) (hi : ∀ a k, a ≠ 2191 → ¬ (a = 0 ∧ k = 111) → τ.i a k = σ.i a k) (hR : ResS res' τ) : RfA W pg t n wy ch fuel rs rn res' q τ := by
  obtain ⟨m, lst, cap, m7, lst7, cap7, R, h1, h2, h3, h4, h5, h6, h7, h8, h9⟩ := h
  have e : ∀ a, a ≠ 0 → a ≠ 2191 → τ.i a = σ.i a := fun a ha hb => funext fun k => hi a k hb (fun z => ha z.1)
  have z0 : ∀ k, k ≠ 111 → τ.i 0 k = σ.i 0 k := fun k hk => hi 0 k (by decide) (fun z => hk z.2)
  have F : FX ΦR τ.sh τ.r := by rw [hs, hr]; exact R.fx
  have hk := R.w3.1.2.1
  have hc := R.w3.2.1.2.1
  have N1 : NwS W lst m wy τ := NwS.ge (E := fun a k => a = 2191 ∨ (a = 0 ∧ k = 111)) (R.nw h1) ⟨hs, fun a k _ => by rw [hr], fun a k z1 _ _ _ => hi a k (by omega) (by omega), fun a _ => by rw [hl]⟩ (fun a k z => by unfold nwE; omega) F
  have B1 : RbR W.1 W.2.1 W.2.2.2 τ := R.rb.mono hk.2 hc (fun a a1 a2 a3 => ⟨e a (by omega) (by omega), by rw [hl]⟩) (z0 41 (by decide))
  exact ⟨m, lst, cap, m7, lst7, cap7, R.gen hs (fun a k _ => by rw [hr]) (fun a k z => hi a k (by omega) (by omega)) (fun a k _ => by rw [hl]) N1 B1, ⟨(z0 83 (by decide)).trans h1.1, h1.2⟩, ⟨(z0 82 (by decide)).trans h2.1, h2.2⟩, ⟨(z0 81 (by decide)).trans h3.1, h3.2⟩, h4.same (e _ (by decide) (by decide)) (e _ (by decide) (by decide)), h5.same (e _ (by decide) (by decide)), (z0 112 (by decide)).trans h6, h7.keep (fun k z => z0 k (by omega)) (e _ (by decide) (by decide)) (e _ (by decide) (by decide)) (by rw [hl]), hR, by rw [hs]; exact h9⟩
def raA (rn : Option (Rs × Es)) : An := match rn with
  | none => .inl 1
  | some r => .inr (Int32.ofNat (2 * r.2.2.2.2.2.length))
def raR (rn : Option (Rs × Es)) (res : List Nat) : List Nat := match rn with
  | none => res
  | some r => r.2.2.2.2.2
theorem oN_2 (k : Nat) : (2 : Int32) * Int32.ofNat k = Int32.ofNat (2 * k) := (Int32.ofNat_mul 2 k).symm
theorem rc_ran (h : RfA W pg t n wy ch fuel rs rn res q σ) (hK : RAns K (RfA W pg t n wy ch fuel rs rn (raR rn res) q) (raA rn)) : B_X23_ran_0 Z (d + 2) σ K := by
  have h0 := h.w110 (v := 0)
  have h00 := h0
  obtain ⟨m, lst, cap, m7, lst7, cap7, R, h1, h2, h3, h4, h5, h6, h7, h8, h9, h10⟩ := h0
  have F := h.fx
  have z0 : ∀ k, k ≠ 110 → σ.i 0 k = (σ.wi 0 110 (0 : Int32)).i 0 k := fun k hk => (wi_ne (by omega)).symm
  rcases rn with _ | ⟨r, S⟩
  · refine S_X23_ran_0 F ⟨fun z => absurd ((z0 96 (by decide)).trans h7.1) z, fun _ => rc_no (th := 1) h00 hK⟩
  · obtain ⟨-, -, -, E1, E2, E3, E4⟩ := h7.2
    refine S_X23_ran_0 F ⟨fun _ => ?_, fun z => absurd (((z0 96 (by decide)).trans h7.1.1).symm.trans z) (by decide)⟩
    have e86 : (if (512 : Int32) < (σ.i 0 86) then (512 : Int32) else (σ.i 0 86)) = Int32.ofNat S.2.2.2.2.length := by
      rw [z0 86 (by decide), E1, show (512 : Int32) = Int32.ofNat 512 from rfl, E3]
      by_cases z : 512 < S.2.2.2.1
      · rw [if_pos ((oN_lt (by decide) (by omega)).mpr z), Nat.min_eq_right (by omega)]
      · rw [if_neg (fun y => z ((oN_lt (by decide) (by omega)).mp y)), Nat.min_eq_left (by omega)]
    rw [e86]
    have hL : S.2.2.2.2.length ≤ 512 := by omega
    have loop : ∀ f k τ, k + f = S.2.2.2.2.length → τ.sh = σ.sh → τ.l = σ.l → τ.r = σ.r → (∀ a y, a ≠ 2191 → τ.i a y = (σ.wi 0 110 (0 : Int32)).i a y) → (∀ (j x : Nat), j < k → S.2.2.2.2[j]? = some x → τ.i 2191 (2 * j) = byB (Int32.ofNat x >>> ((8 : Int32) &&& 31)) ∧ τ.i 2191 (2 * j + 1) = byB (Int32.ofNat x)) → B_X23_ran_31 Z (d + 2) τ (Int32.ofNat S.2.2.2.2.length) (Int32.ofNat k) K := by
      intro f
      induction f with
      | zero =>
        intro k τ hk s1 s2 s3 s4 s5
        have Fτ : FX ΦR τ.sh τ.r := by rw [s1, s3]; exact F
        refine S_X23_ran_31 Fτ ⟨fun _ => ?_, fun z => absurd ?_ z⟩
        · rw [oN_2]
          refine hK _ (h00.keepR s1 s2 s3 (fun a y q1 q2 => (wi_ne q2).trans (s4 a y q1)) ⟨wi_eq, hL, fun j x hx => ?_⟩) ((wi_ne (by decide)).trans ((s4 0 110 (by decide)).trans wi_eq))
          have hx : S.2.2.2.2[j]? = some x := hx
          have hj := (List.getElem?_eq_some_iff.mp hx).1
          have := s5 j x (by omega) hx
          exact ⟨(wi_ne (by omega)).trans this.1, (wi_ne (by omega)).trans this.2⟩
        · rw [oN_le (by omega) (by omega)]
          omega
      | succ f ih =>
        intro k τ hk s1 s2 s3 s4 s5
        have Fτ : FX ΦR τ.sh τ.r := by rw [s1, s3]; exact F
        obtain ⟨x, hx⟩ : ∃ x, S.2.2.2.2[k]? = some x := ⟨_, List.getElem?_eq_getElem (by omega)⟩
        refine S_X23_ran_31 Fτ ⟨fun z => absurd z ?_, fun _ => ?_⟩
        · rw [oN_le (by omega) (by omega)]
          omega
        · rw [oN_2, oN_1, oN_t (by omega), oN_t (by omega), oN_t (by omega), s4 2135 k (by decide), E4 k x hx, oN_1]
          refine ⟨ib_oN (by omega) (by decide), ib_oN (by omega) (by decide), ib_oN (by omega) (by decide), ib_oN (by omega) (by decide), ih (k + 1) _ (by omega) s1 s2 s3 (fun a y q1 => (wi_ne (fun z => q1 z.1)).trans ((wi_ne (fun z => q1 z.1)).trans (s4 a y q1))) (fun j y hj hy => ?_)⟩
          by_cases z : j = k
          · subst z
            rw [hx] at hy
            obtain rfl := Option.some.inj hy
            exact ⟨(wi_ne (by omega)).trans wi_eq, wi_eq⟩
          · obtain ⟨y1, y2⟩ := s5 j y (by omega) hy
            exact ⟨(wi_ne (by omega)).trans ((wi_ne (by omega)).trans y1), (wi_ne (by omega)).trans ((wi_ne (by omega)).trans y2)⟩
    exact loop S.2.2.2.2.length 0 _ (by omega) rfl rfl rfl (fun _ _ _ => rfl) (fun j x hj _ => by omega)
/-! word: eight bytes of the result -/
def rbB (res : List Nat) (k : Nat) : Int32 := match res[k / 2]? with
  | some x => (if k % 2 = 0 then byB (Int32.ofNat x >>> ((8 : Int32) &&& 31)) else byB (Int32.ofNat x)) &&& 255
  | none => 0
def wdF (res : List Nat) (i : Nat) : Nat → Int64
  | 0 => 0
  | k + 1 => (wdF res i k <<< (Int32.toInt64 (8 : Int32) &&& 63)) ||| Int32.toInt64 (rbB res (i + k))
def woA (res : List Nat) (v : Int32) : Nat ⊕ Int64 := if 0 ≤ v.toInt ∧ v.toInt < 2 * res.length then .inr (wdF res v.toInt.toNat 8) else .inl 1
def RAnL (K : kS) (A : Sg → Prop) (r : Nat ⊕ Int64) : Prop := ∀ τ, A τ → match r with
  | .inl th => τ.i 0 110 = Int32.ofNat th → K (.inl (some (.long 0))) τ
  | .inr v => τ.i 0 110 = 0 → K (.inl (some (.long v))) τ
theorem rc_word {v : Int32} (h : RfA W pg t n wy ch fuel rs rn res q σ) (hK : RAnL K (RfA W pg t n wy ch fuel rs rn res q) (woA res v)) : B_X23_word___0 Z (d + 2) σ v K := by
  have h0 := h.w110 (v := 0)
  have h00 := h0
  obtain ⟨m, lst, cap, m7, lst7, cap7, R, h1, h2, h3, h4, h5, h6, h7, h8, h9, h10⟩ := h0
  have F := h.fx
  obtain ⟨r1, r2, r3⟩ := h8
  have e111 : σ.i 0 111 = Int32.ofNat (2 * res.length) := (wi_ne (by decide)).symm.trans r1
  unfold woA at hK
  have no : ¬ (0 ≤ v.toInt ∧ v.toInt < 2 * res.length) → B_X23_no__0 Z (d + 1) (σ.wi 0 110 (0 : Int32)) 1 (yI K fun v τ => K (.inl (some (.long (Int32.toInt64 v)))) τ) := fun z => by
    rw [if_neg z] at hK
    exact S_X23_no__0 h00.fx (hK _ h00.w110 wi_eq)
  refine S_X23_word___0 F ⟨fun z => no ?_, fun z => ⟨fun z2 => ?_, fun z2 => no ?_⟩⟩
  · rw [i32_lt0] at z
    omega
  · rw [i32_lt0] at z
    rw [e111, Int32.lt_iff_toInt_lt, oN_i (by omega)] at z2
    rw [if_pos (by omega)] at hK
    have ev : v = Int32.ofNat v.toInt.toNat := i_oN (by omega)
    generalize hw : v.toInt.toNat = w at hK ev
    subst ev
    have hw2 : w < 2 * res.length := by
      rw [oN_i (by
        have := Int32.toInt_lt (Int32.ofNat w)
        omega)] at z2
      omega
    have loop : ∀ f k, k + f = 8 → B_X23_word___29 Z (d + 2) (σ.wi 0 110 (0 : Int32)) (Int32.ofNat w) (wdF res w k) (Int32.ofNat k) K := by
      intro f
      induction f with
      | zero =>
        intro k hk
        obtain rfl : k = 8 := by omega
        exact S_X23_word___29 R.fx ⟨fun _ => hK _ h00 wi_eq, fun z => absurd (by decide) z⟩
      | succ f ih =>
        intro k hk
        refine S_X23_word___29 R.fx ⟨fun z => absurd z ?_, fun _ => ?_⟩
        · rw [show (8 : Int32) = Int32.ofNat 8 from rfl, oN_le (by decide) (by omega)]
          omega
        · rw [oN_add, r1, oN_le (by omega) (by omega), oN_t (by omega), oN_1]
          refine ⟨fun z => ?_, fun z => ⟨ib_oN (by omega) (by decide), ?_⟩⟩
          · have e : rbB res (w + k) = 0 := by
              unfold rbB
              rw [List.getElem?_eq_none (by omega)]
            have := ih (k + 1) (by omega)
            rw [wdF, e] at this
            exact this
          · have e : rbB res (w + k) = (σ.wi 0 110 (0 : Int32)).i 2191 (w + k) &&& 255 := by
              obtain ⟨x, hx⟩ : ∃ x, res[(w + k) / 2]? = some x := ⟨_, List.getElem?_eq_getElem (by omega)⟩
              obtain ⟨y1, y2⟩ := r3 _ x hx
              unfold rbB
              rw [hx]
              dsimp only
              by_cases p : (w + k) % 2 = 0
              · rw [if_pos p, ← y1, show 2 * ((w + k) / 2) = w + k by omega]
              · rw [if_neg p, ← y2, show 2 * ((w + k) / 2) + 1 = w + k by omega]
            have := ih (k + 1) (by omega)
            rw [wdF, e] at this
            exact this
    exact loop 8 0 rfl
  · rw [i32_lt0] at z
    rw [e111, Int32.lt_iff_toInt_lt, oN_i (by omega)] at z2
    omega
/-! below, row -/
noncomputable def beA (W : Wld) (a b : Int32) : Nat ⊕ Bool := if 0 ≤ a.toInt ∧ a.toInt < W.1.length ∧ 0 ≤ b.toInt ∧ b.toInt < W.1.length then .inr (blW W.1 a.toInt.toNat b.toInt.toNat) else .inl 1
theorem rf_isKind {a : Int32} {K : kS} (h : RfA W pg t n wy ch fuel rs rn res q σ) (h1 : (0 ≤ a.toInt ∧ a.toInt < W.1.length) → K (.inl (some (.int 1))) σ) (h0 : ¬ (0 ≤ a.toInt ∧ a.toInt < W.1.length) → K (.inl (some (.int 0))) σ) : B_X23_isKind_0 Z (d + 1) σ a K := by
  obtain ⟨m, lst, cap, m7, lst7, cap7, R, -⟩ := h
  have hk := R.w3.1.2.1
  refine S_X23_isKind_0 R.fx ⟨fun z => h0 ?_, fun z => ⟨fun z2 => h0 ?_, fun z2 => h1 ?_⟩⟩
  · rw [i32_lt0] at z
    omega
  · rw [R.w3.1.1, Int32.le_iff_toInt_le, oN_i (by omega)] at z2
    omega
  · rw [i32_lt0] at z
    rw [R.w3.1.1, Int32.le_iff_toInt_le, oN_i (by omega)] at z2
    omega
theorem rc_below {a b : Int32} (h : RfA W pg t n wy ch fuel rs rn res q σ) (hK : RAnB K (RfA W pg t n wy ch fuel rs rn res q) (beA W a b)) : B_X23_below_0 Z (d + 2) σ a b K := by
  have h00 := h.w110 (v := 0)
  have F := h.fx
  unfold beA RAnB at hK
  have no : ¬ (0 ≤ a.toInt ∧ a.toInt < W.1.length ∧ 0 ≤ b.toInt ∧ b.toInt < W.1.length) → B_X23_no__0 Z (d + 1) (σ.wi 0 110 (0 : Int32)) 1 (yI K fun v τ => (v ≤ 0 → K (.inl (some (.int 0))) τ) ∧ (¬ v ≤ 0 → K (.inl (some (.int 1))) τ)) := fun z => by
    rw [if_neg z] at hK
    exact rc_nob (th := 1) h00 hK
  refine S_X23_below_0 F (rf_isKind h00 (fun z => ?_) (fun z => ?_))
  · refine ⟨fun y => absurd y (by decide), fun _ => rf_isKind h00 (fun z2 => ?_) (fun z2 => ?_)⟩
    · refine ⟨fun _ => ⟨ib_i z.1 ?_, ib_i z2.1 ?_, ?_⟩, fun y => absurd y (by decide)⟩
      · obtain ⟨m, lst, cap, m7, lst7, cap7, R, -⟩ := h00
        have hk := R.w3.1.2.1
        omega
      · obtain ⟨m, lst, cap, m7, lst7, cap7, R, -⟩ := h00
        have hk := R.w3.1.2.1
        omega
      · have h01 := h00
        obtain ⟨m, lst, cap, m7, lst7, cap7, R, -⟩ := h00
        have e := R.rb.1 a.toInt.toNat b.toInt.toNat (by omega) (by omega)
        rw [show a.toNatClampNeg = a.toInt.toNat from rfl, show b.toNatClampNeg = b.toInt.toNat from rfl, e]
        rw [if_pos ⟨z.1, z.2, z2.1, z2.2⟩] at hK
        unfold blW at hK
        by_cases p : b.toInt.toNat ∈ rwW W.1 1 a.toInt.toNat
        · rw [if_pos p]
          rw [decide_eq_true p] at hK
          exact ⟨rfl, hK _ h01 wi_eq⟩
        · rw [if_neg p]
          rw [decide_eq_false p] at hK
          exact ⟨rfl, hK _ h01 wi_eq⟩
    · exact ⟨fun y => absurd rfl y, fun _ => no (fun y => z2 ⟨y.2.2.1, y.2.2.2⟩)⟩
  · exact ⟨fun _ => no (fun y => z ⟨y.1, y.2.1⟩), fun y => absurd rfl y⟩
def roA (W : Wld) (k w i : Int32) : An := if ¬ ((0 ≤ k.toInt ∧ k.toInt < W.1.length) ∧ 0 ≤ i.toInt) then .inl 1 else if ¬ (0 ≤ w.toInt ∧ w.toInt ≤ 2) then .inl 2 else if i.toInt < (rwW W.1 w.toInt.toNat k.toInt.toNat).length then .inr (Int32.ofNat ((rwW W.1 w.toInt.toNat k.toInt.toNat).getD i.toInt.toNat 0)) else .inr (-1)
theorem rc_row {k w i : Int32} (h : RfA W pg t n wy ch fuel rs rn res q σ) (hK : RAns K (RfA W pg t n wy ch fuel rs rn res q) (roA W k w i)) : B_X23_row_0 Z (d + 2) σ k w i K := by
  have h00 := h.w110 (v := 0)
  have F := h.fx
  unfold roA at hK
  refine S_X23_row_0 F (rf_isKind h00 (fun z => ?_) (fun z => ?_))
  · refine ⟨fun y => absurd y (by decide), fun _ => ⟨fun zi => ⟨fun zw => ?_, fun zw => ⟨fun zw2 => ?_, fun zw2 => ?_⟩⟩, fun zi => ?_⟩⟩
    · rw [Int32.le_iff_toInt_le] at zi
      have zi : 0 ≤ i.toInt := zi
      rw [i32_lt0] at zw
      rw [if_neg (fun y => y ⟨z, zi⟩), if_pos (by omega)] at hK
      exact rc_no (th := 2) h00 hK
    · rw [Int32.le_iff_toInt_le] at zi zw2
      have zi : 0 ≤ i.toInt := zi
      have zw2 : w.toInt ≤ 2 := zw2
      rw [i32_lt0] at zw
      rw [if_neg (fun y => y ⟨z, zi⟩), if_neg (by omega)] at hK
      have h01 := h00
      obtain ⟨m, lst, cap, m7, lst7, cap7, R, -⟩ := h00
      have hk := R.w3.1.2.1
      have ek : W.1[k.toInt.toNat]? = some W.1[k.toInt.toNat] := List.getElem?_eq_getElem (by omega)
      obtain ⟨⟨w1, w2, w3, w4⟩, w5⟩ := (R.w3.1.2.2 _ _ ek).2.2.2.2.2 w.toInt.toNat (by omega)
      have er : rwW W.1 w.toInt.toNat k.toInt.toNat = rwK W.1[k.toInt.toNat] w.toInt.toNat := by
        unfold rwW
        rw [ek]
      rw [er] at hK
      rw [show k.toNatClampNeg = k.toInt.toNat from rfl, show w.toNatClampNeg = w.toInt.toNat from rfl, show i.toNatClampNeg = i.toInt.toNat from rfl, w1, Int32.le_iff_toInt_le, oN_i (by omega)]
      refine ⟨ib_i (by omega) (by omega), ib_i (by omega) (by omega), fun y => ?_, fun y => ⟨ib_i (by omega) (by omega), ib_i (by omega) (by omega), ib_i (by omega) (by omega), ?_⟩⟩
      · rw [if_neg (by omega)] at hK
        exact hK _ h01 wi_eq
      · rw [if_pos (by omega)] at hK
        have hx : (rwK W.1[k.toInt.toNat] w.toInt.toNat)[i.toInt.toNat]? = some ((rwK W.1[k.toInt.toNat] w.toInt.toNat).getD i.toInt.toNat 0) := by
          rw [List.getD_eq_getElem?_getD, List.getElem?_eq_getElem (by omega)]
          rfl
        rw [w4 _ _ hx]
        exact hK _ h01 wi_eq
    · rw [Int32.le_iff_toInt_le] at zi zw2
      have zi : 0 ≤ i.toInt := zi
      have zw2 : ¬ w.toInt ≤ 2 := zw2
      rw [if_neg (fun y => y ⟨z, zi⟩), if_pos (by omega)] at hK
      exact rc_no (th := 2) h00 hK
    · rw [Int32.le_iff_toInt_le] at zi
      have zi : ¬ 0 ≤ i.toInt := zi
      rw [if_pos (fun y => zi y.2)] at hK
      exact rc_no (th := 1) h00 hK
  · refine ⟨fun _ => ?_, fun y => absurd rfl y⟩
    rw [if_pos (fun y => z y.1)] at hK
    exact rc_no (th := 1) h00 hK
end CALLS2

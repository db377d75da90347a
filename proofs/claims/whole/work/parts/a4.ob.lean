/-! AN OBJECT BETWEEN CALLS; THE REFERENCE'S SMALL CALLS -/
/-- an answer: thrown (which), or an int -/
abbrev An : Type := Nat ⊕ Int32
/-- the result, in the heap -/
def byB (x : Int32) : Int32 := vp_nar .byte ((Int32.toInt8 x).toInt32)
def ResS (res : List Nat) (σ : Sg) : Prop := σ.i 0 111 = Int32.ofNat (2 * res.length) ∧ res.length ≤ 512 ∧ ∀ (k x : Nat), res[k]? = some x → σ.i 2191 (2 * k) = byB (Int32.ofNat x >>> ((8 : Int32) &&& 31)) ∧ σ.i 2191 (2 * k + 1) = byB (Int32.ofNat x)
theorem ResS.keep {res : List Nat} {σ τ : Sg} (h : ResS res σ) (h0 : τ.i 0 111 = σ.i 0 111) (h1 : τ.i 2191 = σ.i 2191) : ResS res τ := by
  unfold ResS
  rw [h0, h1]
  exact h
/-- room taken by the reference, after so many calls -/
def RmR (L L7 cap cap7 q : Nat) (sh : List Sh) : Prop := sh.length ≤ 3365 + 2 * (L + L7) + q ∧ szS sh ≤ szS sh0R + 13 * (L + L7) + 3 * (cap + cap7) + 7 * q
/-- the reference between calls -/
def RfA (W : Wld) (pg : Ast) (t : Nat → Int32) (n wy ch fuel rs : Nat) (rn : Option (Rs × Es)) (res : List Nat) (q : Nat) (σ : Sg) : Prop := ∃ m lst cap m7 lst7 cap7, RefR W pg t n m lst cap m7 lst7 cap7 σ ∧ (σ.i 0 83 = Int32.ofNat wy ∧ wy < 3) ∧ (σ.i 0 82 = Int32.ofNat ch ∧ ch ≤ 3) ∧ (σ.i 0 81 = Int32.ofNat fuel ∧ 1 ≤ fuel ∧ fuel ≤ 100000) ∧ MmR W wy σ ∧ OrR W σ ∧ σ.i 0 112 = Int32.ofNat rs ∧ RunS rn σ ∧ ResS res σ ∧ m + 2 * n ≤ 40 * q ∧ RmR lst.length lst7.length cap cap7 q σ.sh
/-- the reference answers -/
def RAns (K : kS) (A : Sg → Prop) (r : An) : Prop := ∀ τ, A τ → match r with
  | .inl th => τ.i 0 110 = Int32.ofNat th → K (.inl (some (.int 0))) τ
  | .inr v => τ.i 0 110 = 0 → K (.inl (some (.int v))) τ
/-- true or false -/
def RAnB (K : kS) (A : Sg → Prop) (r : Nat ⊕ Bool) : Prop := RAns K A (match r with
  | .inl th => .inl th
  | .inr b => .inr (if b = true then 1 else 0))
section SMALL
variable {Z : zT} {d : Nat} {W : Wld} {pg : Ast} {t : Nat → Int32} {n wy ch fuel rs : Nat} {rn : Option (Rs × Es)} {res : List Nat} {q : Nat} {σ τ : Sg} {K : kS}
theorem RfA.fx (h : RfA W pg t n wy ch fuel rs rn res q σ) : FX ΦR σ.sh σ.r := by
  obtain ⟨m, lst, cap, m7, lst7, cap7, R, -⟩ := h
  exact R.fx
theorem RfA.up (h : RfA W pg t n wy ch fuel rs rn res q σ) : RfA W pg t n wy ch fuel rs rn res (q + 1) σ := by
  obtain ⟨m, lst, cap, m7, lst7, cap7, R, h1, h2, h3, h4, h5, h6, h7, h8, h9, h10, h11⟩ := h
  exact ⟨m, lst, cap, m7, lst7, cap7, R, h1, h2, h3, h4, h5, h6, h7, h8, by omega, by omega, by omega⟩
/-- only what was thrown is written -/
theorem RfA.w110 {v : Int32} (h : RfA W pg t n wy ch fuel rs rn res q σ) : RfA W pg t n wy ch fuel rs rn res q (σ.wi 0 110 v) := by
  obtain ⟨m, lst, cap, m7, lst7, cap7, R, h1, h2, h3, h4, h5, h6, h7, h8, h9⟩ := h
  have e : ∀ a, a ≠ 0 → (σ.wi 0 110 v).i a = σ.i a := fun a ha => funext fun k => wi_ne (fun z => ha z.1)
  exact ⟨m, lst, cap, m7, lst7, cap7, R.w0 (by decide), ⟨(wi_ne (by decide)).trans h1.1, h1.2⟩, ⟨(wi_ne (by decide)).trans h2.1, h2.2⟩, ⟨(wi_ne (by decide)).trans h3.1, h3.2⟩, h4.same (e _ (by decide)) (e _ (by decide)), h5.same (e _ (by decide)), (wi_ne (by decide)).trans h6, h7.keep (fun k z => wi_ne (by omega)) (e _ (by decide)) (e _ (by decide)) rfl, h8.keep (wi_ne (by decide)) (e _ (by decide)), h9⟩
/-- thrown -/
theorem rc_no {th : Nat} (h : RfA W pg t n wy ch fuel rs rn res q σ) (hK : RAns K (RfA W pg t n wy ch fuel rs rn res q) (.inl th)) : B_X23_no__0 Z (d + 1) σ (Int32.ofNat th) (yI K fun v τ => K (.inl (some (.int v))) τ) := S_X23_no__0 h.fx (hK _ h.w110 wi_eq)
theorem rc_nob {th : Nat} (h : RfA W pg t n wy ch fuel rs rn res q σ) (hK : RAns K (RfA W pg t n wy ch fuel rs rn res q) (.inl th)) : B_X23_no__0 Z (d + 1) σ (Int32.ofNat th) (yI K fun v τ => (v ≤ 0 → K (.inl (some (.int 0))) τ) ∧ (¬ v ≤ 0 → K (.inl (some (.int 1))) τ)) := S_X23_no__0 h.fx ⟨fun _ => hK _ h.w110 wi_eq, fun z => absurd (by decide) z⟩
/-! end -/
def enA (n : Nat) (v : Int32) : An := if 0 ≤ v.toInt ∧ v.toInt ≤ n then .inr v else .inl 1
def enN (n : Nat) (v : Int32) : Nat := if 0 ≤ v.toInt ∧ v.toInt ≤ n then v.toInt.toNat else n
theorem i32_lt0 (v : Int32) : v < 0 ↔ v.toInt < 0 := Int32.lt_iff_toInt_lt
theorem rc_end {v : Int32} (h : RfA W pg t n wy ch fuel rs rn res q σ) (hK : RAns K (RfA W pg t (enN n v) wy ch fuel rs rn res q) (enA n v)) : B_X23_end_0 Z (d + 2) σ v K := by
  have h0 := h
  obtain ⟨m, lst, cap, m7, lst7, cap7, R, h1, h2, h3, h4, h5, h6, h7, h8, h9, h10⟩ := h
  obtain ⟨⟨x1, x2, x3, x4⟩, x5⟩ := R.tx
  have lv : v ≤ Int32.ofNat n ↔ v.toInt ≤ n := by rw [Int32.le_iff_toInt_le, oN_i (by omega)]
  unfold enA enN at hK
  refine S_X23_end_0 R.fx ⟨fun z => ?_, fun z => ⟨fun z2 => ?_, fun z2 => ?_⟩⟩
  · rw [i32_lt0] at z
    rw [if_neg (by omega), if_neg (by omega)] at hK
    exact rc_no (th := 1) h0.w110 hK
  · rw [i32_lt0] at z
    rw [x2, lv] at z2
    rw [if_pos (by omega), if_pos (by omega)] at hK
    have e : ∀ a, a ≠ 0 → ((σ.wi 0 110 (0 : Int32)).wi 0 15 v).i a = σ.i a := fun a ha => funext fun k => (wi_ne (fun z => ha z.1)).trans (wi_ne (fun z => ha z.1))
    have z0 : ∀ k, k ≠ 110 → k ≠ 15 → ((σ.wi 0 110 (0 : Int32)).wi 0 15 v).i 0 k = σ.i 0 k := fun k a b => (wi_ne (by omega)).trans (wi_ne (by omega))
    have w1 : SmW σ ((σ.wi 0 110 (0 : Int32)).wi 0 15 v) := (SmW.wi0 (by decide)).tr (SmW.wi0 (by decide))
    have N1 : NwS W lst m wy ((σ.wi 0 110 (0 : Int32)).wi 0 15 v) := (R.nw h1).sm w1 R.fx
    have hk := R.w3.1.2.1
    have hc := R.w3.2.1.2.1
    have B1 : RbR W.1 W.2.1 W.2.2.2 ((σ.wi 0 110 (0 : Int32)).wi 0 15 v) := R.rb.mono hk.2 hc (fun a a1 a2 a3 => ⟨e a (by omega), rfl⟩) (z0 41 (by decide) (by decide))
    refine hK _ ⟨m, lst, cap, m7, lst7, cap7, ⟨R.fx, N1.2.1, N1.2.2.1, N1.2.2.2.1, B1, ⟨⟨by omega, ?_, fun k hk => by rw [e 37 (by decide)]; exact x3 k hk, x4⟩, x5⟩, ⟨R.n5.1.mono (fun a s z => z) (by rw [e 6 (by decide)]) rfl (fun b _ => rfl), by rw [e 5 (by decide)]; exact R.n5.2.1, R.n5.2.2⟩, ⟨R.n7.1.mono (fun a s z => z) (by rw [e 8 (by decide)]) rfl (fun b _ => rfl), by rw [e 7 (by decide)]; exact R.n7.2.1, R.n7.2.2⟩, R.dj, TrN.mono (σ := σ) (τ := (σ.wi 0 110 (0 : Int32)).wi 0 15 v) (fun y hy hys => ⟨hy, hys, e y (by have := nd_ge R.fx hys; omega), rfl, rfl⟩) _ _ R.tr⟩, ⟨(z0 83 (by decide) (by decide)).trans h1.1, h1.2⟩, ⟨(z0 82 (by decide) (by decide)).trans h2.1, h2.2⟩, ⟨(z0 81 (by decide) (by decide)).trans h3.1, h3.2⟩, h4.same (e _ (by decide)) (e _ (by decide)), h5.same (e _ (by decide)), (z0 112 (by decide) (by decide)).trans h6, h7.keep (fun k z => z0 k (by omega) (by omega)) (e _ (by decide)) (e _ (by decide)) rfl, h8.keep (z0 111 (by decide) (by decide)) (e _ (by decide)), by omega, h10⟩ ((wi_ne (by decide)).trans wi_eq)
    rw [wi_eq]
    exact i_oN (by omega)
  · rw [i32_lt0] at z
    rw [x2, lv] at z2
    rw [if_neg (by omega), if_neg (by omega)] at hK
    exact rc_no (th := 1) h0.w110 hK
/-! count, told, shown -/
def coA (W : Wld) (n rs : Nat) (res : List Nat) (v : Int32) : An := if v = 0 then .inr (Int32.ofNat W.1.length) else if v = 1 then .inr (Int32.ofNat W.2.1.length) else if v = 2 then .inr (Int32.ofNat W.2.2.2.length) else if v = 3 then .inr (Int32.ofNat W.2.2.1.length) else if v = 4 then .inr (Int32.ofNat rs) else if v = 5 then .inr (Int32.ofNat (2 * res.length)) else if v = 6 then .inr (Int32.ofNat n) else .inl 1
theorem rc_count {v : Int32} (h : RfA W pg t n wy ch fuel rs rn res q σ) (hK : RAns K (RfA W pg t n wy ch fuel rs rn res q) (coA W n rs res v)) : B_X23_count_0 Z (d + 2) σ v K := by
  have h0 := h.w110 (v := 0)
  have h00 := h
  obtain ⟨m, lst, cap, m7, lst7, cap7, R, h1, h2, h3, h4, h5, h6, h7, h8, h9, h10⟩ := h
  unfold coA at hK
  refine S_X23_count_0 R.fx ⟨fun z => ?_, fun z => ?_, fun z => ?_, fun z => ?_, fun z => ?_, fun z => ?_, fun z => ?_, fun z0 z1 z2 z3 z4 z5 z6 => ?_⟩
  · rw [if_pos z] at hK
    rw [R.w3.1.1]
    exact hK _ h0 wi_eq
  · rw [if_neg (by rw [z]; decide), if_pos z] at hK
    rw [R.w3.2.1.1]
    exact hK _ h0 wi_eq
  · rw [if_neg (by rw [z]; decide), if_neg (by rw [z]; decide), if_pos z] at hK
    rw [R.mn.1]
    exact hK _ h0 wi_eq
  · rw [if_neg (by rw [z]; decide), if_neg (by rw [z]; decide), if_neg (by rw [z]; decide), if_pos z] at hK
    rw [R.w3.2.2.1]
    exact hK _ h0 wi_eq
  · rw [if_neg (by rw [z]; decide), if_neg (by rw [z]; decide), if_neg (by rw [z]; decide), if_neg (by rw [z]; decide), if_pos z] at hK
    rw [h6]
    exact hK _ h0 wi_eq
  · rw [if_neg (by rw [z]; decide), if_neg (by rw [z]; decide), if_neg (by rw [z]; decide), if_neg (by rw [z]; decide), if_neg (by rw [z]; decide), if_pos z] at hK
    rw [h8.1]
    exact hK _ h0 wi_eq
  · rw [if_neg (by rw [z]; decide), if_neg (by rw [z]; decide), if_neg (by rw [z]; decide), if_neg (by rw [z]; decide), if_neg (by rw [z]; decide), if_neg (by rw [z]; decide), if_pos z] at hK
    rw [R.tx.1.2.1]
    exact hK _ h0 wi_eq
  · rw [if_neg z0, if_neg z1, if_neg z2, if_neg z3, if_neg z4, if_neg z5, if_neg z6] at hK
    exact rc_no (th := 1) h0 hK
/-- how the last run ended, its value's kind and number, what it counted -/
def rnH : Option (Rs × Es) → Int32
  | none => -1
  | some r => Int32.ofNat (hwR r.1)
def rnK : Option (Rs × Es) → Int32
  | none => -1
  | some r => kdV (laR r.1)
def rnN : Option (Rs × Es) → Int32
  | none => 0
  | some r => nmV (laR r.1)
def rnE : Option (Rs × Es) → Es
  | none => (0, 0, [], 0, [])
  | some r => r.2
def toA (rn : Option (Rs × Es)) (v : Int32) : An := if v = 0 then .inr (rnH rn) else if v = 1 then .inr (rnK rn) else if v = 2 then .inr (rnN rn) else if v = 3 then .inr (Int32.ofNat (rnE rn).1) else if v = 4 then .inr (Int32.ofNat (rnE rn).2.2.1.length) else if v = 5 then .inr (Int32.ofNat (rnE rn).2.2.2.1) else if v = 6 then .inr (Int32.ofNat (rnE rn).2.1) else .inl 1
theorem RunS.es (h : RunS rn σ) : EsR (rnE rn) σ := by
  rcases rn with _ | ⟨r, S⟩
  · exact h.2
  · exact h.2
theorem rc_told {v : Int32} (h : RfA W pg t n wy ch fuel rs rn res q σ) (hK : RAns K (RfA W pg t n wy ch fuel rs rn res q) (toA rn v)) : B_X23_told_0 Z (d + 2) σ v K := by
  have h0 := h.w110 (v := 0)
  obtain ⟨m, lst, cap, m7, lst7, cap7, R, h1, h2, h3, h4, h5, h6, h7, h8, h9, h10⟩ := h
  have E := h7.es
  have none' : σ.i 0 96 = 0 → rn = none := fun z => by
    rcases rn with _ | ⟨r, S⟩
    · rfl
    · exact absurd (h7.1.1.symm.trans z) (by decide)
  have some' : ¬ σ.i 0 96 = 0 → ∃ r, rn = some r ∧ σ.i 0 79 = Int32.ofNat (hwR r.1) ∧ σ.l 0 97 = laR r.1 := fun z => by
    rcases rn with _ | ⟨r, S⟩
    · exact absurd h7.1 z
    · exact ⟨(r, S), rfl, h7.1.2.1, h7.1.2.2⟩
  unfold toA at hK
  refine S_X23_told_0 R.fx ⟨fun z => ⟨fun y => ?_, fun y => ?_⟩, fun z => ⟨fun y => ?_, fun y => ?_⟩, fun z => ⟨fun y => ?_, fun y => ?_⟩, fun z => ?_, fun z => ?_, fun z => ?_, fun z => ?_, fun z0 z1 z2 z3 z4 z5 z6 => ?_⟩
  · rw [if_pos z, none' y] at hK
    exact hK _ (by rw [none' y] at h0; exact h0) wi_eq
  · obtain ⟨r, e1, e2, e3⟩ := some' y
    rw [if_pos z, e1] at hK
    rw [e2]
    exact hK _ (by rw [e1] at h0; exact h0) wi_eq
  · rw [if_neg (by rw [z]; decide), if_pos z, none' y] at hK
    exact hK _ (by rw [none' y] at h0; exact h0) wi_eq
  · obtain ⟨r, e1, e2, e3⟩ := some' y
    rw [if_neg (by rw [z]; decide), if_pos z, e1] at hK
    rw [e3]
    exact S_X23_kindIn_0 h0.fx (hK _ (by rw [e1] at h0; exact h0) wi_eq)
  · rw [if_neg (by rw [z]; decide), if_neg (by rw [z]; decide), if_pos z, none' y] at hK
    exact hK _ (by rw [none' y] at h0; exact h0) wi_eq
  · obtain ⟨r, e1, e2, e3⟩ := some' y
    rw [if_neg (by rw [z]; decide), if_neg (by rw [z]; decide), if_pos z, e1] at hK
    rw [e3]
    exact hK _ (by rw [e1] at h0; exact h0) wi_eq
  · rw [if_neg (by rw [z]; decide), if_neg (by rw [z]; decide), if_neg (by rw [z]; decide), if_pos z] at hK
    rw [E.1]
    exact hK _ h0 wi_eq
  · rw [if_neg (by rw [z]; decide), if_neg (by rw [z]; decide), if_neg (by rw [z]; decide), if_neg (by rw [z]; decide), if_pos z] at hK
    rw [E.2.2.1.1]
    exact hK _ h0 wi_eq
  · rw [if_neg (by rw [z]; decide), if_neg (by rw [z]; decide), if_neg (by rw [z]; decide), if_neg (by rw [z]; decide), if_neg (by rw [z]; decide), if_pos z] at hK
    rw [E.2.2.2.1]
    exact hK _ h0 wi_eq
  · rw [if_neg (by rw [z]; decide), if_neg (by rw [z]; decide), if_neg (by rw [z]; decide), if_neg (by rw [z]; decide), if_neg (by rw [z]; decide), if_neg (by rw [z]; decide), if_pos z] at hK
    rw [E.2.1]
    exact hK _ h0 wi_eq
  · rw [if_neg z0, if_neg z1, if_neg z2, if_neg z3, if_neg z4, if_neg z5, if_neg z6] at hK
    exact rc_no (th := 1) h0 hK
def shA (rn : Option (Rs × Es)) (v : Int32) : An := if 0 ≤ v.toInt ∧ v.toInt < (rnE rn).2.2.1.length then .inr ((rnE rn).2.2.1.getD v.toInt.toNat 0) else .inl 1
theorem rc_shown {v : Int32} (h : RfA W pg t n wy ch fuel rs rn res q σ) (hK : RAns K (RfA W pg t n wy ch fuel rs rn res q) (shA rn v)) : B_X23_shown_0 Z (d + 2) σ v K := by
  have h0 := h.w110 (v := 0)
  obtain ⟨m, lst, cap, m7, lst7, cap7, R, h1, h2, h3, h4, h5, h6, h7, h8, h9, h10⟩ := h
  obtain ⟨-, -, ⟨E1, E2, E3⟩, -⟩ := h7.es
  unfold shA at hK
  refine S_X23_shown_0 R.fx ⟨fun z => ?_, fun z => ⟨fun z2 => ?_, fun z2 => ⟨?_, ?_⟩⟩⟩
  · rw [i32_lt0] at z
    rw [if_neg (by omega)] at hK
    exact rc_no (th := 1) h0 hK
  · rw [i32_lt0] at z
    rw [E1, Int32.le_iff_toInt_le, oN_i (by omega)] at z2
    rw [if_neg (by omega)] at hK
    exact rc_no (th := 1) h0 hK
  · rw [i32_lt0] at z
    rw [E1, Int32.le_iff_toInt_le, oN_i (by omega)] at z2
    exact ib_i (by omega) (by omega)
  · rw [i32_lt0] at z
    rw [E1, Int32.le_iff_toInt_le, oN_i (by omega)] at z2
    rw [if_pos (by omega)] at hK
    have hx : (rnE rn).2.2.1[v.toInt.toNat]? = some ((rnE rn).2.2.1.getD v.toInt.toNat 0) := by
      rw [List.getD_eq_getElem?_getD, List.getElem?_eq_getElem (by omega)]
      rfl
    rw [show v.toNatClampNeg = v.toInt.toNat from rfl, E3 _ _ hx]
    exact hK _ h0 wi_eq
end SMALL

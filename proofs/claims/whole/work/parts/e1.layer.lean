/-! THE CLASS: a layer read -/
section LY
variable {Z : zT} {d : Nat} {t : Nat → Int32} {n N : Nat} {B : Nat × Nat × Nat × Nat × Nat} {C : Nat × Nat × Nat × Nat} {W : Wld} {σ τ υ : Sg} {K : kS} {vs : List (List Int32)} {R : HR}
/-- what may be written while a declaration is read, beside the small steps: one more name of a sort -/
def NmF (s o len : Nat) (σ τ : Sg) : Prop := τ.sh = σ.sh ∧ τ.r = σ.r ∧ (∀ a k, ¬ (a = 40 ∧ 3 ≤ k ∧ k ≤ 6) → ¬ (a = 28 ∧ (k = 3 ∨ k = s)) → τ.i a k = σ.i a k) ∧ ∀ a k, ¬ ((a = 29 ∨ a = 30) ∧ (56 ≤ k ∨ k = o + len)) → τ.l a k = σ.l a k
/-- a name is added -/
theorem h_add {s o len most : Nat} {a b : Int64} (F : FX ΦC σ.sh σ.r) (hs : s < 4) (hx : xJ0 0 (Int32.ofNat s) (Int32.ofNat o)) (hx1 : xJ0 1 (Int32.ofNat s) (Int32.ofNat most)) (hl : σ.i 28 s = Int32.ofNat len) (hm : len < most) (ho : o + most ≤ 72) (k : K (.inl none) (((σ.wl 29 (o + len) a).wl 30 (o + len) b).wi 28 s (Int32.ofNat (len + 1)))) : C_X11_addName_0 Z (d + 2) σ (Int32.ofNat s) a b K := by
  refine T_X11_addName_0 F (T_X11_isFull_0 F ⟨ib_oN hs (by decide), _, hx1, ?_⟩)
  rw [oN_t (by omega), hl, oN_lt (by omega) (by omega)]
  refine ⟨fun _ => ⟨fun z => absurd rfl z, fun _ => ⟨_, hx, ?_⟩⟩, fun z => absurd hm z⟩
  rw [hl, ← Int32.ofNat_add, oN_t (by omega), oN_1]
  exact ⟨ib_oN hs (by decide), ib_oN (by omega) (by omega), ib_oN (by omega) (by omega), ib_oN hs (by decide), ib_oN hs (by decide), k⟩
/-- a layer, as read: where it ends, and whether it is one more -/
def lyH (t : Nat → Int32) (n : Nat) (env : Env) (len : Nat) (R : HR) : HR := htk t n 7 (hnw t n env len 8 (htk t n 23 R))
theorem cl_layerD {w : Int} (hB : HB t n N B C W σ) (h : BdS t n N vs R σ) (k0 : ∀ τ, clI (lyH t n (enW W.1 W.2.1 W.2.2.1 w) W.2.2.1.length R) = 0 → HdF σ τ → BdS t n N vs (lyH t n (enW W.1 W.2.1 W.2.2.1 w) W.2.2.1.length R) τ → K (.inl none) τ) (k1 : ∀ τ p es, lyH t n (enW W.1 W.2.1 W.2.2.1 w) W.2.2.1.length R = .inr (p, []) → R = .inr (es) → W.2.2.1.length < 8 → HdF σ τ → BdS t n N vs (.inr (p, [])) τ → K (.inl none) (((τ.wl 29 (48 + W.2.2.1.length) (nmH (nmS t n (nxS t n es.1)))).wl 30 (48 + W.2.2.1.length) (nmT (nmS t n (nxS t n es.1)))).wi 28 2 (Int32.ofNat (W.2.2.1.length + 1)))) : C_X7_readLayer_0 Z (d + 4) σ K := by
  have l8 := hB.2.2.2.2.2.2.2.2.2.1
  refine T_X7_readLayer_0 hB.1 (h_take (y := 23) (by decide) hB h (fun τ1 f1 h1 => ?_))
  have hB1 := hB.hd f1
  obtain ⟨i, i1, i2, i3, i4⟩ := h1.pos hB1
  refine h_new (s := 2) (len := W.2.2.1.length) (most := 8) (w := w) (by decide) xJ_1.2.2.1 (fun τ hτ => hτ.2.2.2.2.2.2.2.2.1) ⟨l8, by decide⟩ hB1 h1 (fun τ2 f2 h2 => ?_)
  have hB2 := hB1.hd f2
  refine h_take (y := 7) (by decide) hB2 h2 (fun τ3 f3 h3 => ?_)
  have hB3 := hB2.hd f3
  have fr : HdF σ τ3 := (f1.tr f2).tr f3
  refine h_clean hB3 h3 ⟨fun z => k0 τ3 z fr h3, fun z => ?_⟩
  have z : clI (lyH t n (enW W.1 W.2.1 W.2.2.1 w) W.2.2.1.length R) ≠ 0 := z
  have h3' : BdS t n N vs (lyH t n (enW W.1 W.2.1 W.2.2.1 w) W.2.2.1.length R) τ3 := h3
  cases hR : lyH t n (enW W.1 W.2.1 W.2.2.1 w) W.2.2.1.length R with
  | inl q =>
    rw [hR] at z
    exact absurd rfl z
  | inr x =>
    obtain ⟨p3, es3⟩ := x
    rw [hR] at z h3'
    have en : es3 = [] := by
      by_cases y : es3 = []
      · exact y
      · exact absurd (if_neg y) z
    subst en
    rcases R with q | ⟨p, es⟩
    · have : lyH t n (enW W.1 W.2.1 W.2.2.1 w) W.2.2.1.length (.inl q) = .inl q := rfl
      rw [this] at hR
      cases hR
    · by_cases y1 : tyS t n p = 23
      · have e1 : htk t n 23 (.inr (p, es)) = .inr (nxS t n p, es) := if_pos y1
        have ei := i4 _ _ e1
        unfold lyH at hR
        rw [e1] at hR
        by_cases y2 : tyS t n (nxS t n p) = 2
        · have e2 : hnw t n (enW W.1 W.2.1 W.2.2.1 w) W.2.2.1.length 8 (.inr (nxS t n p, es)) = .inr (nxS t n (nxS t n p), es ++ nmE t n (enW W.1 W.2.1 W.2.2.1 w) (nxS t n p) (W.2.2.1.length = 8)) := if_pos y2
          rw [e2] at hR
          have hR2 := hR
          by_cases y3 : tyS t n (nxS t n (nxS t n p)) = 7
          · have e3 : htk t n 7 (.inr (nxS t n (nxS t n p), es ++ nmE t n (enW W.1 W.2.1 W.2.2.1 w) (nxS t n p) (W.2.2.1.length = 8))) = .inr (nxS t n (nxS t n (nxS t n p)), es ++ nmE t n (enW W.1 W.2.1 W.2.2.1 w) (nxS t n p) (W.2.2.1.length = 8)) := if_pos y3
            rw [e3] at hR
            have e4 : es ++ nmE t n (enW W.1 W.2.1 W.2.2.1 w) (nxS t n p) (W.2.2.1.length = 8) = [] := congrArg Prod.snd (Sum.inr.inj hR)
            have e5 := (List.append_eq_nil_iff.mp e4).2
            unfold nmE at e5
            have e6 := ife_nil (List.append_eq_nil_iff.mp e5).2
            have hB3' := hB3
            obtain ⟨fx, sa, ss, ⟨nn, hN1⟩, -⟩ := hB3'
            have hc := sa.2.2.2.2.2.2.2.2.2
            have hd : hdS t n (sgP t n i) = nmH (nmS t n (nxS t n p)) := by
              unfold hdS
              rw [ei, if_pos (Or.inl y2)]
            have tl : tlS t n (sgP t n i) = nmT (nmS t n (nxS t n p)) := by
              unfold tlS
              rw [ei, if_pos (Or.inl y2)]
            rw [i2]
            refine ⟨_, sa.2.2.1.1, _, sa.2.2.1.2, ib_oN (by omega) (by omega), _, sa.2.2.2.1.1, _, sa.2.2.2.1.2, ib_oN (by omega) (by omega), ?_⟩
            rw [oN_t (by omega), (ss.2.1 i i1).2.2.1, (ss.2.1 i i1).2.2.2, hd, tl]
            have l1 := hB3.2.2.2.2.2.2.2.2.1
            exact h_add (s := 2) (o := 48) (len := W.2.2.1.length) (most := 8) fx (by decide) xJ_0.2.2.1 xJ_1.2.2.1 l1 (by omega) (by decide) (k1 τ3 p3 (p, es) (by unfold lyH; rw [e1, e2]; exact hR2) rfl (by omega) fr h3')
          · have e3 : htk t n 7 (.inr (nxS t n (nxS t n p), es ++ nmE t n (enW W.1 W.2.1 W.2.2.1 w) (nxS t n p) (W.2.2.1.length = 8))) = .inl (nxS t n (nxS t n p)) := if_neg y3
            rw [e3] at hR
            cases hR
        · have e2 : hnw t n (enW W.1 W.2.1 W.2.2.1 w) W.2.2.1.length 8 (.inr (nxS t n p, es)) = .inl (nxS t n p) := if_neg y2
          rw [e2] at hR
          cases hR
      · have e1 : htk t n 23 (.inr (p, es)) = .inl p := if_neg y1
        unfold lyH at hR
        rw [e1] at hR
        cases hR
end LY

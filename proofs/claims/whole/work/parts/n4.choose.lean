/-! PURE: how much is laid -/
theorem gp_nd {ms : List (Mtd × Bool)} {ap : List Nat} {role : Nat} (nd : ap.Nodup) : ∀ ls : List Int, ls.Nodup → (ls.flatMap (gpL ms ap role)).Nodup
  | [], _ => List.nodup_nil
  | l :: ls, h => by
    obtain ⟨h1, h2⟩ := List.nodup_cons.mp h
    rw [List.flatMap_cons, List.nodup_append]
    refine ⟨List.Pairwise.sublist List.filter_sublist nd, gp_nd nd ls h2, fun a ha b hb e => ?_⟩
    subst e
    obtain ⟨l', hl', hb⟩ := List.mem_flatMap.mp hb
    have e1 := of_decide_eq_true (Bool.and_eq_true_iff.mp (List.mem_filter.mp ha).2).2
    have e2 := of_decide_eq_true (Bool.and_eq_true_iff.mp (List.mem_filter.mp hb).2).2
    exact h1 (by rw [← e1, e2]; exact hl')
theorem gp_sumZ {ms : List (Mtd × Bool)} {ap : List Nat} {role : Nat} (nd : ap.Nodup) {ls : List Int} (h : ls.Nodup) : ((ls.map (gpL ms ap role)).map List.length).sum ≤ (ap.filter fun m => decide (rlM ms m = role)).length := by
  have := nd_le _ (ap.filter fun m => decide (rlM ms m = role)) (gp_nd (ms := ms) (role := role) nd ls h) (fun x hx => by
    obtain ⟨l, hl, hx⟩ := List.mem_flatMap.mp hx
    obtain ⟨a, b⟩ := List.mem_filter.mp hx
    exact List.mem_filter.mpr ⟨a, (Bool.and_eq_true_iff.mp b).1⟩)
  rw [List.length_flatMap] at this
  rw [List.map_map]
  exact this
theorem rl_sum {ms : List (Mtd × Bool)} : ∀ ap : List Nat, (ap.filter fun m => decide (rlM ms m = 0)).length + (ap.filter fun m => decide (rlM ms m = 1)).length + (ap.filter fun m => decide (rlM ms m = 2)).length + (ap.filter fun m => decide (rlM ms m = 3)).length ≤ ap.length
  | [] => Nat.le_refl _
  | a :: ap => by
    have ih := rl_sum (ms := ms) ap
    have f : ∀ p, ((a :: ap).filter fun m => decide (rlM ms m = p)).length = (if rlM ms a = p then 1 else 0) + (ap.filter fun m => decide (rlM ms m = p)).length := fun p => by
      by_cases e : rlM ms a = p
      · rw [List.filter_cons_of_pos (by exact decide_eq_true e), if_pos e, List.length_cons]
        omega
      · rw [List.filter_cons_of_neg (by rw [decide_eq_true_iff]; exact e), if_neg e]
        omega
    rw [f, f, f, f, List.length_cons]
    by_cases e0 : rlM ms a = 0
    · rw [if_pos e0, if_neg (by omega), if_neg (by omega), if_neg (by omega)]
      omega
    · by_cases e1 : rlM ms a = 1
      · rw [if_neg e0, if_pos e1, if_neg (by omega), if_neg (by omega)]
        omega
      · by_cases e2 : rlM ms a = 2
        · rw [if_neg e0, if_neg e1, if_pos e2, if_neg (by omega)]
          omega
        · rw [if_neg e0, if_neg e1, if_neg e2]
          split <;> omega
theorem lyS_ndZ {on : List Nat} (h : on.Nodup) : (lyS on).Nodup := by
  unfold lyS
  rw [List.nodup_append]
  refine ⟨List.Pairwise.map _ (fun a b (hne : a ≠ b) e => hne (by omega)) (List.pairwise_reverse.mpr (List.Pairwise.imp (fun q => q.symm) h)), List.nodup_cons.mpr ⟨fun q => (by cases q), List.nodup_nil⟩, fun a ha b hb e => ?_⟩
  obtain ⟨l, -, rfl⟩ := List.mem_map.mp ha
  rw [List.mem_singleton] at hb
  omega
/-! THE CLASS: a choice -/
section CHOOSE
variable {Z : zT} {d A u : Nat} {σ σ0 τ υ : Sg} {K : kS} {C : Nat × Nat × Nat × Nat} {W : Wld} {wy a0 gA c m n H : Nat} {k : Nat → Nat} {v : Nat → Int} {L on ap : List Nat}
/-- the row of a role, at home H -/
def RwH (H role : Nat) (R : List Nat) (sv : Bool) (σ : Sg) : Prop := ∃ fr, σ.i 86 (4 * H + role) = Int32.ofNat fr ∧ fr + R.length ≤ 128 ∧ σ.i 87 (4 * H + role) = Int32.ofNat R.length ∧ σ.i 88 (4 * H + role) = (if sv = true then 1 else 0) ∧ ∀ (i x : Nat), R[i]? = some x → σ.i 85 (128 * H + fr + i) = Int32.ofNat x
/-- what laying rows at home H may write -/
def CaF (H : Nat) (σ τ : Sg) : Prop := NhE (fun a => (85 ≤ a ∧ a ≤ 88) ∨ a = 91 ∨ a = 92) σ τ ∧ (∀ j, j < 128 * H ∨ 128 * H + 128 ≤ j → τ.i 85 j = σ.i 85 j) ∧ ∀ j, j < 4 * H ∨ 4 * H + 4 ≤ j → τ.i 86 j = σ.i 86 j ∧ τ.i 87 j = σ.i 87 j ∧ τ.i 88 j = σ.i 88 j
theorem CaF.refl (H : Nat) (σ : Sg) : CaF H σ σ := ⟨NhE.refl _ _, fun _ _ => rfl, fun _ _ => ⟨rfl, rfl, rfl⟩⟩
theorem CaF.tr (h : CaF H σ τ) (g : CaF H τ υ) : CaF H σ υ := ⟨h.1.tr g.1, fun j q => (g.2.1 j q).trans (h.2.1 j q), fun j q => ⟨(g.2.2 j q).1.trans (h.2.2 j q).1, (g.2.2 j q).2.1.trans (h.2.2 j q).2.1, (g.2.2 j q).2.2.trans (h.2.2 j q).2.2⟩⟩
/-- while rows are laid -/
def ChZ (C : Nat × Nat × Nat × Nat) (W : Wld) (wy a0 c : Nat) (k : Nat → Nat) (ap : List Nat) (σ : Sg) : Prop := QwS C W wy a0 σ ∧ NeS W σ ∧ KaS W 89 (plW W.2.1 c) k σ ∧ RoS 90 ap σ ∧ σ.i 84 12 = Int32.ofNat ap.length
theorem ChZ.xf {E : Nat → Prop} (h : ChZ C W wy a0 c k ap σ) (g : XF E σ τ) (hE : ∀ a, E a → (85 ≤ a ∧ a ≤ 88) ∨ a = 91 ∨ a = 92) : ChZ C W wy a0 c k ap τ := by
  obtain ⟨h1, h2, h3, h4, h5⟩ := h
  refine ⟨h1.xf g (fun a q => by have := hE a q; omega), h2.xf g (fun a q => by have := hE a q; omega), h3.xf g (fun q => by have := hE _ q; omega), fun i y hy => ?_, ?_⟩
  · rw [(g.2.2 90 (fun q => by have := hE _ q; omega)).1]
    exact h4 i y hy
  · rw [(g.2.2 84 (fun q => by have := hE _ q; omega)).1]
    exact h5
theorem ChZ.la (h : ChZ C W wy a0 c k ap σ) (g : LaF σ τ) (n' : NeS W τ) : ChZ C W wy a0 c k ap τ := by
  obtain ⟨h1, h2, h3, h4, h5⟩ := h
  refine ⟨h1.he h2.sq g (fun a q => by omega), n', h3.he h2.sq g (by omega), fun i y hy => ?_, ?_⟩
  · rw [(NhE.row g h1.1.1 h2.sq (a := 90) (by omega)).1]
    exact h4 i y hy
  · rw [(NhE.row g h1.1.1 h2.sq (a := 84) (by omega)).1]
    exact h5
/-- one layer of one role -/
theorem ch_layer {role al t : Nat} {sb : Bool} {fr : Nat} {ly : Int} {lf : Int64} {L4 : Int64} (hH : H ≤ 25) (hr : role ≤ 3) (hA : ∀ m ∈ ap, m ∈ ftL W c k) (nd : ap.Nodup) (hl : ap.length ≤ 120) (ht : t ≤ 8) (yl : -1 ≤ ly ∧ ly < 8) (ely : (Int64.toInt32 (lf &&& (15 : Int64))) - 1 = Int32.ofInt ly) (rm : fr + al + (gpL W.2.2.2 ap role ly).length ≤ 120) (S : ChZ C W wy a0 c k ap τ)
    (kk : ∀ (τ' : Sg) (R : List Nat) (sv : Bool), (R, sv) = lyG (fun x y => nrI W wy x y k) sb (gpL W.2.2.2 ap role ly).length (gpL W.2.2.2 ap role ly) → R.length ≤ (gpL W.2.2.2 ap role ly).length → CaF H τ τ' → ChZ C W wy a0 c k ap τ' → (∀ j, τ'.i 86 j = τ.i 86 j ∧ τ'.i 87 j = τ.i 87 j) → (∀ j, j ≠ 4 * H + role → τ'.i 88 j = τ.i 88 j) → τ'.i 88 (4 * H + role) = (if sv = true then 1 else 0) → (∀ j, j < 128 * H + fr + al → τ'.i 85 j = τ.i 85 j) → (∀ (i x : Nat), R[i]? = some x → τ'.i 85 (128 * H + fr + al + i) = Int32.ofNat x) → ((ly < 0 ∨ sv = true) → C_X0_choose_165 Z (d + 6) τ' (Int32.ofNat c) (Int32.ofNat H) L4 (Int32.ofNat (fr + al + R.length)) (Int32.ofNat role) (Int32.ofNat (4 * H + role)) (if sb = true then 1 else 0) ((Int64.toUInt64 lf >>> ((Int32.toInt64 (4 : Int32)).toUInt64 &&& Int64.toUInt64 63)).toInt64) 0 (Int32.ofNat (t + 1)) K) ∧ (¬ (ly < 0 ∨ sv = true) → C_X0_choose_165 Z (d + 6) τ' (Int32.ofNat c) (Int32.ofNat H) L4 (Int32.ofNat (fr + al + R.length)) (Int32.ofNat role) (Int32.ofNat (4 * H + role)) (if sb = true then 1 else 0) ((Int64.toUInt64 lf >>> ((Int32.toInt64 (4 : Int32)).toUInt64 &&& Int64.toUInt64 63)).toInt64) 1 (Int32.ofNat (t + 1)) K)) : C_X0_choose_165 Z (d + 6) τ (Int32.ofNat c) (Int32.ofNat H) L4 (Int32.ofNat (fr + al)) (Int32.ofNat role) (Int32.ofNat (4 * H + role)) (if sb = true then 1 else 0) lf 1 (Int32.ofNat t) K := by
  have kl : ∀ p, p < plW W.2.1 c → k p < W.1.length := fun p hp => (S.2.2.1.2 p hp).2
  have ndg : (gpL W.2.2.2 ap role ly).Nodup := List.Pairwise.sublist List.filter_sublist nd
  have gA : ∀ x ∈ gpL W.2.2.2 ap role ly, x ∈ ftL W c k := fun x hx => hA x (List.mem_filter.mp hx).1
  refine T_X0_choose_165 S.1.1.1 ?_
  rw [show (8 : Int32) < Int32.ofNat t ↔ 8 < t from oN_lt (a := 8) (by decide) (by omega), ely]
  refine ⟨fun z => absurd z (by omega), fun _ => ⟨fun z => absurd z (by decide), fun _ => ?_⟩⟩
  refine cl_group S.1 kl hA hl S.2.2.2.1 S.2.2.2.2 hr yl (fun τ1 x1 r91 => ?_)
  have S1 := S.xf x1 (fun a q => by omega)
  obtain ⟨n1, n2, n3⟩ := lyHE_len (nr := fun x y => nrI W wy x y k) (st := sb) _ _ ndg (Nat.le_refl _)
  rw [← ly_eq (fun x => lt_irr x) _ _ ndg] at n1 n2
  rw [show (128 : Int32) = Int32.ofNat 128 from rfl, oN_mul, oN_add, show H * 128 + (fr + al) = 128 * H + fr + al by omega]
  generalize gpL W.2.2.2 ap role ly = G at *
  refine cl_layGroup (st := sb) gA ndg (by omega) (by omega) ⟨S1.1, S1.2.1, S1.2.2.1, r91⟩ (fun τ2 x2 G2 o85 w85 => ?_)
  have S2 := S1.la x2 G2.2.1
  have r86 : ∀ a, 86 ≤ a → a ≤ 88 → τ2.i a = τ.i a := fun a h1 h2 => by
    rw [(NhE.row x2 S1.1.1.1 S1.2.1.sq (a := a) (by omega)).1, (x1.2.2 a (by omega)).1]
  have c2 : CaF H τ τ2 := by
    refine ⟨NhE.tr (x1.he (fun a q => by omega) (by omega)) (NhE.mono x2 (fun a q => by omega)), fun j hj => ?_, fun j _ => ⟨by rw [r86 86 (by omega) (by omega)], by rw [r86 87 (by omega) (by omega)], by rw [r86 88 (by omega) (by omega)]⟩⟩
    rw [o85 j (by omega), (x1.2.2 85 (by omega)).1]
  obtain ⟨R, sv, eLG⟩ : ∃ R sv, lyG (fun x y => nrI W wy x y k) sb G.length G = (R, sv) := ⟨_, _, rfl⟩
  rw [eLG] at n1 n2 w85 ⊢
  dsimp only at n1 n2 w85 ⊢
  have ln : R.length ≤ G.length := by
    cases q : sv with
    | true => exact Nat.le_of_lt (n1 q)
    | false => exact Nat.le_of_eq (n2 q)
  have s241 : ∀ s : Nat, s = (if sv = true then 1 else 0) → C_X0_choose_241 Z (d + 6) τ2 (Int32.ofNat c) (Int32.ofNat H) L4 (Int32.ofNat (fr + al + R.length)) (Int32.ofNat role) (Int32.ofNat (4 * H + role)) (if sb = true then 1 else 0) lf (Int32.ofNat t) (Int32.ofInt ly) (Int32.ofNat (4 * H + role)) (Int32.ofNat s) K := fun s hs => by
    have s1 : s ≤ 1 := by
      rw [hs]
      split <;> omega
    have nar : vp_nar .boolean (Int32.ofNat s) = Int32.ofNat s := by
      have : s = 0 ∨ s = 1 := by omega
      rcases this with rfl | rfl <;> rfl
    have xw : XF (fun a => (85 ≤ a ∧ a ≤ 88) ∨ a = 91 ∨ a = 92) τ2 (τ2.wi 88 (4 * H + role) (Int32.ofNat s)) := (XF.refl _ _).wi (by omega)
    have S3 := S2.xf xw (fun a q => q)
    have c3 : CaF H τ (τ2.wi 88 (4 * H + role) (Int32.ofNat s)) := c2.tr ⟨xw.he (fun a q => by omega) (by omega), fun j _ => wi_ne (by omega), fun j hj => ⟨wi_ne (by omega), wi_ne (by omega), wi_ne (by omega)⟩⟩
    have e88 : (τ2.wi 88 (4 * H + role) (Int32.ofNat s)).i 88 (4 * H + role) = Int32.ofNat s := wi_at ..
    have K2 := kk (τ2.wi 88 (4 * H + role) (Int32.ofNat s)) R sv eLG.symm ln c3 S3 (fun j => ⟨by rw [wi_ne (by omega), r86 86 (by omega) (by omega)], by rw [wi_ne (by omega), r86 87 (by omega) (by omega)]⟩) (fun j hj => by rw [wi_ne (by omega), r86 88 (by omega) (by omega)]) (by rw [e88, hs]; cases sv <;> rfl) (fun j hj => by rw [wi_ne (by omega), o85 j (by omega), (x1.2.2 85 (by omega)).1]) (fun i x hx => by rw [wi_ne (by omega)]; exact w85 i x hx)
    refine T_X0_choose_241 S2.1.1.1 ?_
    rw [nar, oN_t (by omega), e88, oN_1]
    have lz : Int32.ofInt ly < 0 ↔ ly < 0 := by
      rw [Int32.lt_iff_toInt_lt, Int32.toInt_ofInt_of_le (by show -2147483648 ≤ ly; omega) (by show ly < 2147483648; omega)]
      exact Iff.rfl
    rw [lz, show Int32.ofNat s = 0 ↔ s = 0 from oN_eq (b := 0) (by omega) (by decide)]
    refine ⟨ib_oN (by omega) (by decide), fun z => K2.1 (Or.inl z), fun z => ⟨ib_oN (by omega) (by decide), fun z2 => K2.1 (Or.inr ?_), fun z2 => K2.2 ?_⟩⟩
    · cases sv with
      | true => rfl
      | false => exact absurd hs z2
    · rintro (q | q)
      · exact z q
      · rw [q] at hs
        exact absurd (z2.symm.trans hs) (by decide)
  show (Int32.ofNat G.length ≤ Int32.ofNat R.length → _) ∧ (¬ Int32.ofNat G.length ≤ Int32.ofNat R.length → _)
  rw [oN_le (by omega) (by omega), oN_add]
  refine ⟨fun z => s241 0 ?_, fun z => s241 1 ?_⟩
  · rw [if_neg (fun q => by have := n1 q; omega)]
  · rw [if_pos (Classical.byContradiction fun q => z (by have := n2 (Bool.eq_false_iff.mpr q); omega))]
end CHOOSE

/-! THE CLASS: a choice, whole -/
theorem rwG_cons {nr : Nat → Nat → Int} {st : Bool} {g : List Nat} {r : List (List Nat)} {R : List Nat} {sv : Bool} (h : (R, sv) = lyG nr st g.length g) : rwG nr st (g :: r) = if sv = true then (R, true) else (R ++ (rwG nr st r).1, (rwG nr st r).2) := by
  rw [rwG, ← h]
  dsimp only
  by_cases q : sv = true
  · rw [if_pos q, if_pos q, q]
  · rw [if_neg q, if_neg q]
theorem t32_n : ∀ n : Fin 16, Int64.toInt32 (Int64.ofNat n.val) = Int32.ofNat n.val := by decide +kernel
/-- the layer at place t -/
theorem ly_at {W : Wld} {on : List Nat} (h8 : W.2.2.1.length ≤ 8) (ho : LyW W on) {t : Nat} (ht : t ≤ on.length) : ∃ ly : Int, (lyS on)[t]? = some ly ∧ (-1 ≤ ly ∧ ly < 8) ∧ (Int64.toInt32 (Int64.ofNat (enL on.reverse / 16 ^ t) &&& (15 : Int64))) - 1 = Int32.ofInt ly ∧ (ly < 0 ↔ t = on.length) := by
  have eb := lyE_b h8 ho
  have dl : enL on.reverse / 16 ^ t ≤ enL on.reverse := Nat.div_le_self _ _
  have ea := enL_at on.reverse (fun l hl => by have := ho.2.1 l (List.mem_reverse.mp hl); omega) t
  rw [n4_and (by omega), ea]
  by_cases q : t < on.length
  · have hq : t < on.reverse.length := by rw [List.length_reverse]; exact q
    have lb := ho.2.1 on.reverse[t] (List.mem_reverse.mp (List.getElem_mem hq))
    refine ⟨(on.reverse[t] : Nat), ?_, by omega, ?_, ⟨fun z => by omega, fun z => by omega⟩⟩
    · unfold lyS
      rw [List.getElem?_append_left (by rw [List.length_map]; exact hq), List.getElem?_map, List.getElem?_eq_getElem hq]
      rfl
    · rw [List.getElem?_eq_getElem hq]
      dsimp only
      rw [t32_n ⟨on.reverse[t] + 1, by omega⟩]
      exact oN_p1 (m := on.reverse[t] + 1) (by omega)
  · have te : t = on.length := by omega
    refine ⟨-1, ?_, by omega, ?_, ⟨fun _ => te, fun _ => by decide⟩⟩
    · unfold lyS
      rw [List.getElem?_append_right (by rw [List.length_map, List.length_reverse]; omega), List.length_map, List.length_reverse, te, Nat.sub_self]
      rfl
    · rw [List.getElem?_eq_none (by rw [List.length_reverse]; omega)]
      decide
section CHOOSE2
variable {Z : zT} {d A u : Nat} {σ σ0 τ υ : Sg} {K : kS} {C : Nat × Nat × Nat × Nat} {W : Wld} {wy a0 gA c m n H : Nat} {k : Nat → Nat} {v : Nat → Int} {L on ap : List Nat}
/-- all layers of one role, from layer t on -/
theorem ch_role {role fr : Nat} {sb : Bool} (hH : H ≤ 25) (hr : role ≤ 3) (hA : ∀ m ∈ ap, m ∈ ftL W c k) (nd : ap.Nodup) (hl : ap.length ≤ 120) (ho : LyW W on) : ∀ (f t al : Nat) (τ : Sg), t + f = on.length → fr + al + ((((lyS on).drop t).map (gpL W.2.2.2 ap role)).map List.length).sum ≤ 120 → ChZ C W wy a0 c k ap τ → (∀ (τ' : Sg) (R : List Nat) (sv : Bool), (R, sv) = rwG (fun x y => nrI W wy x y k) sb (((lyS on).drop t).map (gpL W.2.2.2 ap role)) → R.length ≤ ((((lyS on).drop t).map (gpL W.2.2.2 ap role)).map List.length).sum → CaF H τ τ' → ChZ C W wy a0 c k ap τ' → (∀ j, τ'.i 86 j = τ.i 86 j ∧ τ'.i 87 j = τ.i 87 j) → (∀ j, j ≠ 4 * H + role → τ'.i 88 j = τ.i 88 j) → τ'.i 88 (4 * H + role) = (if sv = true then 1 else 0) → (∀ j, j < 128 * H + fr + al → τ'.i 85 j = τ.i 85 j) → (∀ (i x : Nat), R[i]? = some x → τ'.i 85 (128 * H + fr + al + i) = Int32.ofNat x) → C_X0_choose_276 Z (d + 6) τ' (Int32.ofNat c) (Int32.ofNat H) (lyE on) (Int32.ofNat (fr + al + R.length)) (Int32.ofNat role) (Int32.ofNat (4 * H + role)) K) → C_X0_choose_165 Z (d + 6) τ (Int32.ofNat c) (Int32.ofNat H) (lyE on) (Int32.ofNat (fr + al)) (Int32.ofNat role) (Int32.ofNat (4 * H + role)) (if sb = true then 1 else 0) (Int64.ofNat (enL on.reverse / 16 ^ t)) 1 (Int32.ofNat t) K := by
  have o8 := ho.1
  have lyl : (lyS on).length = on.length + 1 := by
    unfold lyS
    rw [List.length_append, List.length_map, List.length_reverse]
    rfl
  intro f
  induction f with
  | zero => ?_
  | succ f ih => ?_
  all_goals
    intro t al τ ht rm S kk
    obtain ⟨ly, hly, yl, ely, tiff⟩ := ly_at S.1.2.2.2.2.2.1 ho (show t ≤ on.length by omega)
    have eb := lyE_b S.1.2.2.2.2.2.1 ho
    have sh : ((Int64.toUInt64 (Int64.ofNat (enL on.reverse / 16 ^ t)) >>> ((Int32.toInt64 (4 : Int32)).toUInt64 &&& Int64.toUInt64 63)).toInt64) = Int64.ofNat (enL on.reverse / 16 ^ (t + 1)) := by
      have dl : enL on.reverse / 16 ^ t ≤ enL on.reverse := Nat.div_le_self _ _
      have := n4_sh (e := enL on.reverse / 16 ^ t) (k := 1) (by omega) (by omega)
      rw [Nat.div_div_eq_div_mul, ← Nat.pow_add] at this
      exact this
    have ed : (lyS on).drop t = ly :: (lyS on).drop (t + 1) := by
      obtain ⟨q1, q2⟩ := List.getElem?_eq_some_iff.mp hly
      rw [← q2]
      exact (List.getElem_cons_drop (h := q1)).symm
    rw [ed, List.map_cons, List.map_cons, List.sum_cons] at rm kk
    have rm1 : fr + al + (gpL W.2.2.2 ap role ly).length ≤ 120 := by omega
    refine ch_layer (sb := sb) hH hr hA nd hl (by omega) yl ely rm1 S (fun τ' R sv e ln c2 S2 g6 g88 e88 g85 w85 => ?_)
    rw [sh]
    have rc := rwG_cons (r := ((lyS on).drop (t + 1)).map (gpL W.2.2.2 ap role)) e
    have stop : rwG (fun x y => nrI W wy x y k) sb (gpL W.2.2.2 ap role ly :: ((lyS on).drop (t + 1)).map (gpL W.2.2.2 ap role)) = (R, sv) → C_X0_choose_165 Z (d + 6) τ' (Int32.ofNat c) (Int32.ofNat H) (lyE on) (Int32.ofNat (fr + al + R.length)) (Int32.ofNat role) (Int32.ofNat (4 * H + role)) (if sb = true then 1 else 0) (Int64.ofNat (enL on.reverse / 16 ^ (t + 1))) 0 (Int32.ofNat (t + 1)) K := fun es => by
      have hk := kk τ' R sv es.symm (by omega) c2 S2 g6 g88 e88 g85 w85
      exact T_X0_choose_165 S2.1.1.1 ⟨fun _ => hk, fun _ => ⟨fun _ => hk, fun z => absurd rfl z⟩⟩
    refine ⟨fun q => stop ?_, fun q => ?_⟩
    · rcases q with q | q
      · have te := tiff.mp q
        rw [rc, List.drop_of_length_le (by omega), List.map_nil]
        by_cases z : sv = true
        · rw [if_pos z, z]
        · rw [if_neg z]
          show (R ++ [], false) = _
          rw [List.append_nil, Bool.eq_false_iff.mpr z]
      · rw [rc, if_pos q, q]
    · have tl : t ≠ on.length := fun z => q (Or.inl (tiff.mpr z))
      have s0 : ¬ sv = true := fun z => q (Or.inr z)
      rw [if_neg s0] at rc
      first
        | (exfalso; omega)
        | (rw [show fr + al + R.length = fr + (al + R.length) by omega]
           refine ih (t + 1) (al + R.length) τ' (by omega) (by omega) S2 (fun τ2 R2 sv2 e2 l2 c3 S3 h6 h88 f88 h85 x85 => ?_)
           have := kk τ2 (R ++ R2) sv2 (by rw [rc, ← e2]) (by rw [List.length_append]; omega) (c2.tr c3) S3 (fun j => ⟨(h6 j).1.trans (g6 j).1, (h6 j).2.trans (g6 j).2⟩) (fun j hj => (h88 j hj).trans (g88 j hj)) f88 (fun j hj => (h85 j (by omega)).trans (g85 j hj)) (fun i x hx => ?_)
           · rw [List.length_append, ← Nat.add_assoc] at this
             rw [← Nat.add_assoc]
             exact this
           · by_cases z : i < R.length
             · rw [List.getElem?_append_left z] at hx
               rw [h85 _ (by omega)]
               exact w85 i x hx
             · rw [List.getElem?_append_right (by omega)] at hx
               have := x85 _ x hx
               rw [show 128 * H + fr + (al + R.length) + (i - R.length) = 128 * H + fr + al + i by omega] at this
               exact this)
/-- the roles -/
theorem ch_94 (hH : H ≤ 25) (hc : c < W.2.1.length) (hA : ∀ m ∈ ap, m ∈ ftL W c k) (nd : ap.Nodup) (hl : ap.length ≤ 120) (ho : LyW W on) (σ0 : Sg) (kk : ∀ τ, CaF H σ0 τ → ChZ C W wy a0 c k ap τ → (∀ r, r < 4 → RwH H r (rowW W wy on c k ap r).1 (rowW W wy on c k ap r).2 τ) → K (.inl (some (.int 1))) τ) : ∀ (f r fr : Nat) (τ : Sg), r + f = 4 → fr + (if r ≤ 0 then (ap.filter fun m => decide (rlM W.2.2.2 m = 0)).length else 0) + (if r ≤ 1 then (ap.filter fun m => decide (rlM W.2.2.2 m = 1)).length else 0) + (if r ≤ 2 then (ap.filter fun m => decide (rlM W.2.2.2 m = 2)).length else 0) + (if r ≤ 3 then (ap.filter fun m => decide (rlM W.2.2.2 m = 3)).length else 0) ≤ 120 → CaF H σ0 τ → ChZ C W wy a0 c k ap τ → (∀ r', r' < r → ∃ fr', τ.i 86 (4 * H + r') = Int32.ofNat fr' ∧ fr' + (rowW W wy on c k ap r').1.length ≤ fr ∧ τ.i 87 (4 * H + r') = Int32.ofNat (rowW W wy on c k ap r').1.length ∧ τ.i 88 (4 * H + r') = (if (rowW W wy on c k ap r').2 = true then 1 else 0) ∧ ∀ (i x : Nat), (rowW W wy on c k ap r').1[i]? = some x → τ.i 85 (128 * H + fr' + i) = Int32.ofNat x) → C_X0_choose_94 Z (d + 6) τ (Int32.ofNat c) (Int32.ofNat H) (lyE on) (Int32.ofNat fr) (Int32.ofNat r) K := by
  intro f
  induction f with
  | zero =>
    intro r fr τ hr hb g S hd
    have er : r = 4 := by omega
    subst er
    refine T_X0_choose_94 S.1.1.1 ⟨fun _ => kk τ g S (fun r' hr' => ?_), fun z => absurd (by decide) z⟩
    obtain ⟨fr', h1, h2, h3⟩ := hd r' hr'
    rw [if_neg (by omega), if_neg (by omega), if_neg (by omega), if_neg (by omega)] at hb
    exact ⟨fr', h1, by omega, h3⟩
  | succ f ih =>
    intro r fr τ hr hb g S hd
    obtain ⟨c24, ec, p1, p3⟩ := S.1.cx hc
    have jn : τ.i 32 c = Int32.ofNat (jnW W.2.1 c) ∧ jnW W.2.1 c ≤ 4 := by
      have cx := List.getElem?_eq_getElem hc
      have e : jnW W.2.1 c = (W.2.1[c]).2.2.1 := by
        unfold jnW
        rw [cx]
        rfl
      rw [e]
      exact ⟨(S.1.2.1 c _ cx).1, (S.1.2.2.2.2.1 _ (List.mem_of_getElem? cx)).1⟩
    -- room for this role
    have cr : fr + (ap.filter fun m => decide (rlM W.2.2.2 m = r)).length ≤ 120 ∧ ∀ fr', fr' ≤ fr + (ap.filter fun m => decide (rlM W.2.2.2 m = r)).length → fr' + (if r + 1 ≤ 0 then (ap.filter fun m => decide (rlM W.2.2.2 m = 0)).length else 0) + (if r + 1 ≤ 1 then (ap.filter fun m => decide (rlM W.2.2.2 m = 1)).length else 0) + (if r + 1 ≤ 2 then (ap.filter fun m => decide (rlM W.2.2.2 m = 2)).length else 0) + (if r + 1 ≤ 3 then (ap.filter fun m => decide (rlM W.2.2.2 m = 3)).length else 0) ≤ 120 := by
      have : r = 0 ∨ r = 1 ∨ r = 2 ∨ r = 3 := by omega
      rcases this with rfl | rfl | rfl | rfl
      · simp only [Nat.le_refl, if_true, show (0 : Nat) ≤ 1 by decide, show (0 : Nat) ≤ 2 by decide, show (0 : Nat) ≤ 3 by decide, show ¬ (0 + 1 : Nat) ≤ 0 by decide, show (0 + 1 : Nat) ≤ 1 by decide, show (0 + 1 : Nat) ≤ 2 by decide, show (0 + 1 : Nat) ≤ 3 by decide, if_false] at hb ⊢
        exact ⟨by omega, fun fr' hf => by omega⟩
      · simp only [Nat.le_refl, if_true, show ¬ (1 : Nat) ≤ 0 by decide, show (1 : Nat) ≤ 2 by decide, show (1 : Nat) ≤ 3 by decide, show ¬ (1 + 1 : Nat) ≤ 0 by decide, show ¬ (1 + 1 : Nat) ≤ 1 by decide, show (1 + 1 : Nat) ≤ 2 by decide, show (1 + 1 : Nat) ≤ 3 by decide, if_false] at hb ⊢
        exact ⟨by omega, fun fr' hf => by omega⟩
      · simp only [Nat.le_refl, if_true, show ¬ (2 : Nat) ≤ 0 by decide, show ¬ (2 : Nat) ≤ 1 by decide, show (2 : Nat) ≤ 3 by decide, show ¬ (2 + 1 : Nat) ≤ 0 by decide, show ¬ (2 + 1 : Nat) ≤ 1 by decide, show ¬ (2 + 1 : Nat) ≤ 2 by decide, show (2 + 1 : Nat) ≤ 3 by decide, if_false] at hb ⊢
        exact ⟨by omega, fun fr' hf => by omega⟩
      · simp only [Nat.le_refl, if_true, show ¬ (3 : Nat) ≤ 0 by decide, show ¬ (3 : Nat) ≤ 1 by decide, show ¬ (3 : Nat) ≤ 2 by decide, show ¬ (3 + 1 : Nat) ≤ 0 by decide, show ¬ (3 + 1 : Nat) ≤ 1 by decide, show ¬ (3 + 1 : Nat) ≤ 2 by decide, show ¬ (3 + 1 : Nat) ≤ 3 by decide, if_false] at hb ⊢
        exact ⟨by omega, fun fr' hf => by omega⟩
    have tot := gp_sumZ (ms := W.2.2.2) (role := r) nd (lyS_ndZ ho.2.2)
    obtain ⟨cr1, cr2⟩ := cr
    have x1 : XF (fun a => (85 ≤ a ∧ a ≤ 88) ∨ a = 91 ∨ a = 92) τ ((τ.wi 86 (4 * H + r) (Int32.ofNat fr)).wi 88 (4 * H + r) 0) := ((XF.refl _ _).wi (by omega)).wi (by omega)
    have S1 := S.xf x1 (fun a q => q)
    have c1 : CaF H τ ((τ.wi 86 (4 * H + r) (Int32.ofNat fr)).wi 88 (4 * H + r) 0) := ⟨x1.he (fun a q => by omega) (by omega), fun j _ => (wi_ne (by omega)).trans (wi_ne (by omega)), fun j hj => ⟨(wi_ne (by omega)).trans (wi_ne (by omega)), (wi_ne (by omega)).trans (wi_ne (by omega)), (wi_ne (by omega)).trans (wi_ne (by omega))⟩⟩
    have go : ∀ sb : Bool, sb = (decide (r = 1) || (decide (r = 0) && decide (jnW W.2.1 c = 0))) → C_X0_choose_165 Z (d + 6) ((τ.wi 86 (4 * H + r) (Int32.ofNat fr)).wi 88 (4 * H + r) 0) (Int32.ofNat c) (Int32.ofNat H) (lyE on) (Int32.ofNat fr) (Int32.ofNat r) (Int32.ofNat (4 * H + r)) (if sb = true then 1 else 0) (lyE on) 1 0 K := fun sb esb => by
      have := ch_role (Z := Z) (d := d) (K := K) (role := r) (fr := fr) (sb := sb) hH (by omega) hA nd hl ho on.length 0 0 _ (Nat.zero_add _) (by rw [List.drop_zero]; omega) S1 (fun τ' R sv e ln c2 S2 g6 g88 e88 g85 w85 => ?_)
      · rw [Nat.pow_zero, Nat.div_one] at this
        exact this
      · rw [List.drop_zero] at e ln
        have er : rowW W wy on c k ap r = (R, sv) := by
          unfold rowW
          rw [← esb]
          exact e.symm
        refine T_X0_choose_276 S2.1.1.1 ?_
        have e86 : τ'.i 86 (4 * H + r) = Int32.ofNat fr := by
          rw [(g6 _).1, wi_ne (by omega), wi_at]
        rw [oN_t (by omega), e86, oN_1, show fr + 0 + R.length = fr + R.length by omega, oN_sub (show fr ≤ fr + R.length by omega), show fr + R.length - fr = R.length by omega]
        refine ⟨ib_oN (by omega) (by decide), ib_oN (by omega) (by decide), ?_⟩
        have x3 : XF (fun a => (85 ≤ a ∧ a ≤ 88) ∨ a = 91 ∨ a = 92) τ' (τ'.wi 87 (4 * H + r) (Int32.ofNat R.length)) := (XF.refl _ _).wi (by omega)
        have c3 : CaF H τ' (τ'.wi 87 (4 * H + r) (Int32.ofNat R.length)) := ⟨x3.he (fun a q => by omega) (by omega), fun j _ => wi_ne (by omega), fun j hj => ⟨wi_ne (by omega), wi_ne (by omega), wi_ne (by omega)⟩⟩
        refine ih (r + 1) (fr + R.length) _ (by omega) (cr2 _ (by omega)) (((g.tr c1).tr c2).tr c3) (S2.xf x3 (fun a q => q)) (fun r' hr' => ?_)
        by_cases q : r' = r
        · subst q
          refine ⟨fr, ?_, by rw [er]; exact Nat.le_refl _, ?_, ?_, fun i x hx => ?_⟩
          · rw [wi_ne (by omega)]
            exact e86
          · rw [wi_at, er]
          · rw [wi_ne (by omega), e88, er]
          · rw [er] at hx
            rw [wi_ne (by omega)]
            have := w85 i x hx
            rw [show 128 * H + fr + 0 + i = 128 * H + fr + i by omega] at this
            exact this
        · obtain ⟨fr', h1, h2, h3, h4, h5⟩ := hd r' (by omega)
          refine ⟨fr', ?_, by omega, ?_, ?_, fun i x hx => ?_⟩
          · rw [wi_ne (by omega), (g6 _).1, wi_ne (by omega), wi_ne (by omega)]
            exact h1
          · rw [wi_ne (by omega), (g6 _).2, wi_ne (by omega), wi_ne (by omega)]
            exact h3
          · rw [wi_ne (by omega), g88 _ (by omega), wi_ne (by omega), wi_ne (by omega)]
            exact h4
          · have il := (List.getElem?_eq_some_iff.mp hx).1
            rw [wi_ne (by omega), g85 _ (by omega), wi_ne (by omega), wi_ne (by omega)]
            exact h5 i x hx
    refine T_X0_choose_94 S.1.1.1 ?_
    rw [show (4 : Int32) ≤ Int32.ofNat r ↔ 4 ≤ r from oN_le (a := 4) (by decide) (by omega), show (4 : Int32) = Int32.ofNat 4 from rfl, oN_mul, oN_add, show H * 4 + r = 4 * H + r by omega, oN_t (by omega), oN_t (by omega), show Int32.ofNat r = 1 ↔ r = 1 from oN_eq (b := 1) (by omega) (by decide), show Int32.ofNat r = 0 ↔ r = 0 from oN_eq (b := 0) (by omega) (by decide), jn.1, show Int32.ofNat (jnW W.2.1 c) = 0 ↔ jnW W.2.1 c = 0 from oN_eq (b := 0) (by omega) (by decide), show vp_nar .boolean (0 : Int32) = 0 by decide]
    refine ⟨fun z => absurd z (by omega), fun _ => ⟨ib_oN (by omega) (by decide), ib_oN (by omega) (by decide), fun z => go true ?_, fun z => ⟨fun z2 => go false ?_, fun z2 => ⟨ib_oN c24 (by decide), fun z3 => go false ?_, fun z3 => go true ?_⟩⟩⟩⟩
    · rw [decide_eq_true z]
      rfl
    · rw [decide_eq_false z, decide_eq_false z2]
      rfl
    · rw [decide_eq_false z, decide_eq_false z3, Bool.and_false]
      rfl
    · rw [decide_eq_true z2, decide_eq_true z3, Bool.and_self, Bool.or_true]
end CHOOSE2

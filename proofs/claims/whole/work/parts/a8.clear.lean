/-! THE REFERENCE: clear -/
def nmJ (j : Nat) : List Int32 := (List.range (stA j).1).map (stI j)
theorem nmJ_len (j : Nat) : (nmJ j).length = (stA j).1 := by
  unfold nmJ
  rw [List.length_map, List.length_range]
section CLEAR
variable {Z : zT} {d : Nat} {σ τ : Sg} {K : kS}
theorem nm_by {j : Nat} (hj : j = 112 ∨ j = 114 ∨ j = 116) {k : Nat} (hk : k < (stA j).1) : vp_nar .byte ((Int32.toInt8 (stI j k)).toInt32) = stI j k := by
  have h1 : ∀ k, k < (stA 112).1 → vp_nar .byte ((Int32.toInt8 (stI 112 k)).toInt32) = stI 112 k := by decide +kernel
  have h2 : ∀ k, k < (stA 114).1 → vp_nar .byte ((Int32.toInt8 (stI 114 k)).toInt32) = stI 114 k := by decide +kernel
  have h3 : ∀ k, k < (stA 116).1 → vp_nar .byte ((Int32.toInt8 (stI 116 k)).toInt32) = stI 116 k := by decide +kernel
  rcases hj with rfl | rfl | rfl
  · exact h1 k hk
  · exact h2 k hk
  · exact h3 k hk
theorem rf_nbs {a j : Nat} (hZ : ZK Z) (hj : j = 112 ∨ j = 114 ∨ j = 116) (hd : 14 ≤ d) (F0 : FX ΦR σ.sh σ.r) (p0 : sh0R[a]? = some (Sh.obj 20)) (hK : ∀ τ, FX ΦR τ.sh τ.r → FrN a σ τ → NmIs τ a (nmJ j) → K (.inl none) τ) : B_X19_be__0 Z d σ a (Rf.old j) K := by
  obtain ⟨d, rfl⟩ : ∃ e, d = e + 1 := ⟨d - 1, by omega⟩
  have hJ : j ∈ stJ := by rcases hj with rfl | rfl | rfl <;> decide
  have hX : hb_Xt j = true := by rcases hj with rfl | rfl | rfl <;> decide +kernel
  have hl : (stA j).1 ≤ 16 := by rcases hj with rfl | rfl | rfl <;> decide +kernel
  have loop : ∀ m k (τ : Sg), (stA j).1 - k = m → k ≤ (stA j).1 → FrN a σ τ → τ.i a 1 = Int32.ofNat (stA j).1 → (∀ i, i < k → τ.i (a + 1) i = stI j i) → B_X19_be__10 Z (d + 1) τ a (Rf.old j) (Int32.ofNat k) K := by
    intro m
    induction m with
    | zero =>
      intro k τ hm hk hF e1 hI
      obtain rfl : k = (stA j).1 := by omega
      have F : FX ΦR τ.sh τ.r := by rw [hF.1, hF.2.2.1]; exact F0
      refine S_X19_be__10 F p0 ⟨fun _ => hK _ F hF ⟨by rw [nmJ_len]; exact e1, by rw [nmJ_len]; exact hl, fun i y hy => ?_⟩, fun q => absurd ?_ q⟩
      · unfold nmJ at hy
        have hi := (List.getElem?_eq_some_iff.mp hy).1
        rw [List.length_map, List.length_range] at hi
        rw [List.getElem?_map, List.getElem?_range hi] at hy
        have hy := Option.some.inj hy
        rw [hI i hi, ← hy]
      · rw [e1]
        exact Int32.le_refl _
    | succ m ih =>
      intro k τ hm hk hF e1 hI
      have F : FX ΦR τ.sh τ.r := by rw [hF.1, hF.2.2.1]; exact F0
      refine S_X19_be__10 F p0 ⟨fun q => absurd q ?_, fun _ => ⟨j, rfl, hX, st_ch hZ hJ (by omega) (by omega) F ?_⟩⟩
      · rw [e1, oN_le (by omega) (by omega)]
        omega
      · refine ⟨ib_oN (by omega) (by decide), ?_⟩
        rw [oN_t (by omega), oN_1, nm_by hj (by omega)]
        refine ih (k + 1) _ (by omega) (by omega) ⟨hF.1, hF.2.1, hF.2.2.1, fun b i h1 h2 => (wi_ne (fun z => h1 z.1)).trans (hF.2.2.2 b i h1 h2)⟩ ((wi_ne (by omega)).trans e1) (fun i hi => ?_)
        by_cases z : i = k
        · rw [z]
          exact wi_eq
        · exact (wi_ne (fun y => z y.2)).trans (hI i (by omega))
  refine S_X19_be__0 F0 p0 ⟨j, rfl, hX, st_ln hZ hJ (by omega) F0 ?_⟩
  exact loop _ 0 _ rfl (Nat.zero_le _) ⟨rfl, rfl, rfl, fun b i h1 h2 => wi_ne h2⟩ wi_eq (fun i hi => by omega)
/-- what telling a first kind leaves as it was -/
def TkF (k : Nat) (σ τ : Sg) : Prop := τ.sh = σ.sh ∧ τ.l = σ.l ∧ τ.r = σ.r ∧ ∀ a y, ¬ (10 ≤ a ∧ a ≤ 36) → ¬ (2193 + 9 * k ≤ a ∧ a < 2193 + 9 * k + 9) → ¬ (a = 0 ∧ y = 4) → τ.i a y = σ.i a y
theorem rf_tellKind {ks : List Knd} {j : Nat} {fi : Bool} (hZ : ZK Z) (hj : j = 112 ∨ j = 114 ∨ j = 116) (hd : 20 ≤ d) (F : FX ΦR σ.sh σ.r) (e4 : σ.i 0 4 = Int32.ofNat ks.length) (hk : ks.length ≤ 23) (hfi : fi = false → 1 ≤ ks.length) (H : ∀ (k : Nat) x, ks[k]? = some x → Kd1 σ k x)
    (hK : ∀ τ, FX ΦR τ.sh τ.r → TkF ks.length σ τ → τ.i 0 4 = Int32.ofNat (ks.length + 1) → (∀ (k : Nat) x, (ks ++ [(nmJ j, fi, (if fi = true then [] else [0]), (rwN ks.length (if fi = true then [] else [0]) (rwW ks)).1, (rwN ks.length (if fi = true then [] else [0]) (rwW ks)).2.1, (rwN ks.length (if fi = true then [] else [0]) (rwW ks)).2.2.1)])[k]? = some x → Kd1 τ k x) → K (.inl none) τ) : B_X23_tellKind_0 Z d σ (Rf.old j) (if fi = true then 1 else 0) K := by
  obtain ⟨d, rfl⟩ : ∃ e, d = e + 3 := ⟨d - 3, by omega⟩
  have p18 : sh0R[2193 + 9 * ks.length]? = some (Sh.obj 18) := kE_1 (by omega)
  have p20 : sh0R[2193 + 9 * ks.length + 1]? = some (Sh.obj 20) := kF_18_1 p18
  refine S_X23_tellKind_0 F ?_
  rw [e4, oN_t (by omega)]
  refine ⟨ib_oN (by omega) (by decide), rf_nbs hZ hj (by omega) F p20 (fun τ2 F2 g2 nm => ?_)⟩
  have nz' : nz .boolean (if fi = true then (1 : Int32) else 0) := by cases fi <;> exact ⟨rfl, rfl⟩
  refine ⟨nz', ?_⟩
  obtain ⟨ps, hps⟩ : ∃ x, x = (if fi = true then ([] : List Nat) else [0]) := ⟨_, rfl⟩
  rw [← hps] at hK
  have key : B_X23_tellKind_33 Z (d + 2 + 1) (τ2.wi (2193 + 9 * ks.length) 1 (if fi = true then 1 else 0)) (2193 + 9 * ks.length) (2193 + 9 * ks.length) (Int32.ofNat ps.length) K := by
    obtain ⟨σ3, hσ3⟩ : ∃ x, x = ((τ2.wi (2193 + 9 * ks.length) 1 (if fi = true then 1 else 0)).wi (2193 + 9 * ks.length) 3 (Int32.ofNat ps.length)).wi (2193 + 9 * ks.length + 3) 0 (0 : Int32) := ⟨_, rfl⟩
    refine S_X23_tellKind_33 F2 p18 p18 ?_
    rw [← hσ3]
    have i3 : ∀ a y, ¬ (a = 2193 + 9 * ks.length ∧ (y = 1 ∨ y = 3)) → ¬ (a = 2193 + 9 * ks.length + 3 ∧ y = 0) → σ3.i a y = τ2.i a y := fun a y q1 q2 => by
      rw [hσ3]
      exact (wi_ne q2).trans ((wi_ne (fun z => q1 ⟨z.1, Or.inr z.2⟩)).trans (wi_ne (fun z => q1 ⟨z.1, Or.inl z.2⟩)))
    have s3 : σ3.sh = σ.sh ∧ σ3.l = σ.l ∧ σ3.r = σ.r := by rw [hσ3]; exact ⟨g2.1, g2.2.1, g2.2.2.1⟩
    have F3 : FX ΦR σ3.sh σ3.r := by rw [s3.1, s3.2.2]; exact F
    have i0 : ∀ a y, ¬ (2193 + 9 * ks.length ≤ a ∧ a < 2193 + 9 * ks.length + 9) → σ3.i a y = σ.i a y := fun a y q => (i3 a y (by omega) (by omega)).trans (g2.2.2.2 a y (by omega) (by omega))
    have e43 : σ3.i 0 4 = Int32.ofNat ks.length := (i0 0 4 (by omega)).trans e4
    have hps0 : ∀ p ∈ ps, p = 0 ∧ 1 ≤ ks.length := fun p hp => by
      rw [hps] at hp
      cases fi with
      | true => cases hp
      | false =>
        rw [if_neg (by decide)] at hp
        exact ⟨List.mem_singleton.mp hp, hfi rfl⟩
    have hpl : ps.length ≤ 1 := by
      rw [hps]
      split
      · exact Nat.zero_le _
      · exact Nat.le_refl _
    have get : ∀ p ∈ ps, ∃ x, ks[p]? = some x ∧ Kd1 σ3 p x := fun p hp => by
      obtain ⟨rfl, h1⟩ := hps0 p hp
      refine ⟨ks[0], List.getElem?_eq_getElem (by omega), (H 0 _ (List.getElem?_eq_getElem (by omega))).mono (fun a a1 a2 => funext fun y => i0 a y (by omega))⟩
    rw [e43]
    refine rf_makeRows (rs := rwW ks) F3 (by omega) (fun p hp => by have := hps0 p hp; omega) (by omega) (fun w hw p hp => ?_) ?_ (fun i p hp => ?_) (fun w hw p hp => ?_) (fun w hw p hp i y hy => ?_) (fun υ L1 L2 L0 bb mk => ?_)
    · obtain ⟨x, hx, kd⟩ := get p hp
      rw [rw_get hx]
      obtain ⟨g1, g2'⟩ := kd.2.2.2.2.2 w hw
      have := hps0 p hp
      exact ⟨g1.2.1, fun z hz => by have := g2' z hz; omega⟩
    · show σ3.i (2193 + 9 * ks.length) 3 = _
      rw [hσ3]
      exact (wi_ne (by omega)).trans wi_eq
    · obtain ⟨rfl, h1⟩ := hps0 p (List.mem_of_getElem? hp)
      have hi := (List.getElem?_eq_some_iff.mp hp).1
      obtain rfl : i = 0 := by omega
      show σ3.i (2193 + 9 * ks.length + 3) 0 = _
      rw [hσ3]
      exact wi_eq
    · obtain ⟨x, hx, kd⟩ := get p hp
      rw [rw_get hx]
      exact (kd.2.2.2.2.2 w hw).1.1
    · obtain ⟨x, hx, kd⟩ := get p hp
      rw [rw_get hx] at hy
      exact (kd.2.2.2.2.2 w hw).1.2.2.2 i y hy
    · have ern := mkR_f mk
      obtain ⟨m1, m2, m3, m4, m5, m6, m7, m8, m9, m10, m11, -, -, -, n1, n2, n3, n4, n5, n6⟩ := mk
      have m4 : ∀ a y, ¬ (10 ≤ a ∧ a ≤ 36) → ¬ (2193 + 9 * ks.length + 5 ≤ a ∧ a ≤ 2193 + 9 * ks.length + 8) → υ.i a y = σ3.i a y := fun a y q1 q2 => m4 a y q1 (by show a ≠ 2193 + 9 * ks.length + 5; omega) (by show a ≠ 2193 + 9 * ks.length + 6; omega) (by show a ≠ 2193 + 9 * ks.length + 7; omega) (by show a ≠ 2193 + 9 * ks.length + 8; omega)
      have e4u : υ.i 0 4 = Int32.ofNat ks.length := (m4 0 4 (by omega) (by omega)).trans e43
      show K (.inl none) (υ.wi 0 4 (υ.i 0 4 + 1))
      rw [e4u, oN_1]
      have fi0 : ∀ a, a ≠ 0 → (υ.wi 0 4 (Int32.ofNat (ks.length + 1))).i a = υ.i a := fun a ha => wi_row ha
      refine hK _ (by show FX ΦR υ.sh υ.r; rw [m1, m3]; exact F3) ⟨m1.trans s3.1, m2.trans s3.2.1, m3.trans s3.2.2, fun a y q1 q2 q3 => (wi_ne q3).trans ((m4 a y q1 (by omega)).trans (i0 a y q2))⟩ wi_eq (fun k x hx => ?_)
      by_cases hkl : k < ks.length
      · rw [List.getElem?_append_left hkl] at hx
        exact (H k x hx).mono (fun a a1 a2 => by rw [fi0 a (by omega)]; exact funext fun y => (m4 a y (by omega) (by omega)).trans (i0 a y (by omega)))
      · rw [List.getElem?_append_right (by omega)] at hx
        have hk0 : k = ks.length := by
          have := (List.getElem?_eq_some_iff.mp hx).1
          have this : k - ks.length < 1 := this
          omega
        subst hk0
        rw [Nat.sub_self] at hx
        have hx := Option.some.inj hx
        rw [← hx, ern]
        have lo : ∀ a y, 2193 + 9 * ks.length ≤ a → a < 2193 + 9 * ks.length + 5 → (υ.wi 0 4 (Int32.ofNat (ks.length + 1))).i a y = σ3.i a y := fun a y a1 a2 => by
          rw [fi0 a (by omega)]
          exact m4 a y (by omega) (by omega)
        have up' : ∀ a, (υ.wi 0 4 (Int32.ofNat (ks.length + 1))).i (2193 + 9 * ks.length + a) = υ.i (2193 + 9 * ks.length + a) := fun a => fi0 _ (by omega)
        refine ⟨nm.mono (funext fun y => ?_) (funext fun y => ?_), ?_, ?_, fun i p hp => ?_, ⟨by show ps.length ≤ 24; omega, fun p hp => by have := hps0 p hp; omega⟩, fun w hw => ?_⟩
        · rw [lo _ _ (by omega) (by omega)]
          exact i3 _ _ (by omega) (by omega)
        · rw [lo _ _ (by omega) (by omega)]
          exact i3 _ _ (by omega) (by omega)
        · rw [lo _ _ (by omega) (by omega), hσ3]
          exact (wi_ne (by omega)).trans ((wi_ne (by omega)).trans wi_eq)
        · rw [lo _ _ (by omega) (by omega), hσ3]
          exact (wi_ne (by omega)).trans wi_eq
        · obtain ⟨rfl, h1⟩ := hps0 p (List.mem_of_getElem? hp)
          have hi := (List.getElem?_eq_some_iff.mp hp).1
          have hi : i < ps.length := hi
          obtain rfl : i = 0 := by omega
          rw [lo _ _ (by omega) (by omega), hσ3]
          exact wi_eq
        · have hR : ∀ w' L, w' < 3 → RowIs υ (2193 + 9 * ks.length + 4 + 1 + w') L → RowIs (υ.wi 0 4 (Int32.ofNat (ks.length + 1))) (2193 + 9 * ks.length + 4 + 1 + w') L := fun w' L hw h i y hy => by
            rw [fi0 _ (by omega)]
            exact h i y hy
          have h05 : ∀ w', w' < 3 → (υ.wi 0 4 (Int32.ofNat (ks.length + 1))).i (2193 + 9 * ks.length + 4 + 1 + w') 0 = Int32.ofNat ks.length := fun w' hw => by
            rw [fi0 _ (by omega)]
            exact m5 w' hw
          have h8 : (υ.wi 0 4 (Int32.ofNat (ks.length + 1))).i (2193 + 9 * ks.length + 8) = υ.i (2193 + 9 * ks.length + 8) := fi0 _ (by omega)
          match w, hw with
          | 0, _ => exact RwIs.mk (h05 0 (by omega)) (hR 0 L0 (by omega) m8) (by rw [h8]; exact m11) n3 n6 (by omega)
          | 1, _ => exact RwIs.mk (h05 1 (by omega)) (hR 1 L1 (by omega) m6) (by rw [h8]; exact m9) n1 n4 (by omega)
          | 2, _ => exact RwIs.mk (h05 2 (by omega)) (hR 2 L2 (by omega) m7) (by rw [h8]; exact m10) n2 n5 (by omega)
  cases fi with
  | true =>
    have e : ps.length = 0 := by rw [hps]; rfl
    rw [e] at key
    exact ⟨fun z => absurd z (by decide), fun _ => key⟩
  | false =>
    have e : ps.length = 1 := by rw [hps]; rfl
    rw [e] at key
    exact ⟨fun _ => key, fun z => absurd rfl z⟩
/-- the world as it begins -/
def W0 : Wld := ([(nmJ 112, true, [], [0], [0], [0]), (nmJ 114, false, [0], [1, 0], [1, 0], [1, 0]), (nmJ 116, false, [0], [2, 0], [2, 0], [2, 0])], [], [], [])
theorem rf_beginning {lst : List Nat} {m0 : Nat} (hZ : ZK Z) (hd : 30 ≤ d) (F : FX ΦR σ.sh σ.r)
    (hK : ∀ τ, FX ΦR τ.sh τ.r → τ.sh = σ.sh → (∀ a k, ¬ (a = 0 ∧ k = 10) → τ.r a k = σ.r a k) → τ.r 0 10 = Rf.nul → (∀ a k, ¬ (10 ≤ a ∧ a ≤ 36) → ¬ (2193 ≤ a ∧ a < 2220) → ¬ (1881 ≤ a ∧ a < 1905) → ¬ (1930 ≤ a ∧ a ≤ 1932) → a ≠ 2069 → ¬ (a = 5 ∧ k = 1) → ¬ (a = 0 ∧ ((4 ≤ k ∧ k ≤ 7) ∨ k = 41)) → τ.i a k = σ.i a k) → (∀ a, ¬ (55 ≤ a ∧ a < 2121) → τ.l a = σ.l a) → τ.i 5 1 = 0 → W3 W0.1 W0.2.1 W0.2.2.1 τ → τ.i 0 6 = 0 → RbR W0.1 W0.2.1 W0.2.2.2 τ → (∀ k, k < 8192 → τ.i 2069 k = -1) → K (.inl none) τ) : B_X23_beginning_0 Z d σ K := by
  obtain ⟨d, rfl⟩ : ∃ e, d = e + 1 := ⟨d - 1, by omega⟩
  refine S_X23_beginning_0 F ?_
  obtain ⟨σ1, hσ1⟩ : ∃ x, x = (((((σ.wi 0 4 (0 : Int32)).wi 0 5 (0 : Int32)).wi 0 6 (0 : Int32)).wi 0 7 (0 : Int32)).wi 5 1 (0 : Int32)).wr 0 10 Rf.nul := ⟨_, rfl⟩
  rw [← hσ1]
  have F1 : FX ΦR σ1.sh σ1.r := by
    rw [hσ1]
    exact FX.w F (by show cstR 0 10 = false; decide +kernel)
  have i1 : ∀ a k, ¬ (a = 0 ∧ 4 ≤ k ∧ k ≤ 7) → ¬ (a = 5 ∧ k = 1) → σ1.i a k = σ.i a k := fun a k q1 q2 => by
    rw [hσ1]
    exact (wi_ne q2).trans ((wi_ne (by omega)).trans ((wi_ne (by omega)).trans ((wi_ne (by omega)).trans (wi_ne (by omega)))))
  have ei : σ1.i = (((((σ.wi 0 4 (0 : Int32)).wi 0 5 (0 : Int32)).wi 0 6 (0 : Int32)).wi 0 7 (0 : Int32)).wi 5 1 (0 : Int32)).i := by rw [hσ1]; rfl
  have z4 : σ1.i 0 4 = 0 := by
    rw [ei]
    exact (wi_ne (by decide)).trans ((wi_ne (by decide)).trans ((wi_ne (by decide)).trans ((wi_ne (by decide)).trans wi_eq)))
  have z5 : σ1.i 0 5 = 0 := by
    rw [ei]
    exact (wi_ne (by decide)).trans ((wi_ne (by decide)).trans ((wi_ne (by decide)).trans wi_eq))
  have z6 : σ1.i 0 6 = 0 := by
    rw [ei]
    exact (wi_ne (by decide)).trans ((wi_ne (by decide)).trans wi_eq)
  have z7 : σ1.i 0 7 = 0 := by
    rw [ei]
    exact (wi_ne (by decide)).trans wi_eq
  have z51 : σ1.i 5 1 = 0 := by
    rw [ei]
    exact wi_eq
  have r1 : ∀ a k, ¬ (a = 0 ∧ k = 10) → σ1.r a k = σ.r a k := fun a k q => by rw [hσ1]; exact wr_ne q
  have r10 : σ1.r 0 10 = Rf.nul := by
    rw [hσ1]
    show (Sg.wr _ _ _ _).r _ _ = _
    rw [wr_r, if_pos ⟨rfl, rfl⟩]
  have l1 : σ1.l = σ.l := by rw [hσ1]; rfl
  have s1 : σ1.sh = σ.sh := by rw [hσ1]; rfl
  refine rf_tellKind (ks := []) (j := 112) (fi := true) hZ (Or.inl rfl) (by omega) F1 z4 (by decide) (fun z => by cases z) (fun k x hx => by cases hx) (fun τ2 F2 g2 e2 H2 => ?_)
  have H2 : ∀ (k : Nat) x, ([(nmJ 112, true, [], [0], [0], [0])] : List Knd)[k]? = some x → Kd1 τ2 k x := H2
  refine rf_tellKind (ks := [(nmJ 112, true, [], [0], [0], [0])]) (j := 114) (fi := false) hZ (Or.inr (Or.inl rfl)) (by omega) F2 e2 (by decide) (fun _ => by decide) H2 (fun τ3 F3 g3 e3 H3 => ?_)
  have H3 : ∀ (k : Nat) x, ([(nmJ 112, true, [], [0], [0], [0]), (nmJ 114, false, [0], [1, 0], [1, 0], [1, 0])] : List Knd)[k]? = some x → Kd1 τ3 k x := H3
  refine rf_tellKind (ks := [(nmJ 112, true, [], [0], [0], [0]), (nmJ 114, false, [0], [1, 0], [1, 0], [1, 0])]) (j := 116) (fi := false) hZ (Or.inr (Or.inr rfl)) (by omega) F3 e3 (by decide) (fun _ => by decide) H3 (fun τ4 F4 g4 e4 H4 => ?_)
  have H4 : ∀ (k : Nat) x, W0.1[k]? = some x → Kd1 τ4 k x := H4
  have gi : ∀ a y, ¬ (10 ≤ a ∧ a ≤ 36) → ¬ (2193 ≤ a ∧ a < 2220) → ¬ (a = 0 ∧ y = 4) → τ4.i a y = σ1.i a y := fun a y q1 q2 q3 => by
    rw [g4.2.2.2 a y q1 (by show ¬ (2193 + 9 * 2 ≤ a ∧ a < 2193 + 9 * 2 + 9); omega) q3, g3.2.2.2 a y q1 (by show ¬ (2193 + 9 * 1 ≤ a ∧ a < 2193 + 9 * 1 + 9); omega) q3, g2.2.2.2 a y q1 (by show ¬ (2193 + 9 * 0 ≤ a ∧ a < 2193 + 9 * 0 + 9); omega) q3]
  have s4 : τ4.sh = σ1.sh := g4.1.trans (g3.1.trans g2.1)
  have l4 : τ4.l = σ1.l := g4.2.1.trans (g3.2.1.trans g2.2.1)
  have r4 : τ4.r = σ1.r := g4.2.2.1.trans (g3.2.2.1.trans g2.2.2.1)
  have w34 : W3 W0.1 W0.2.1 W0.2.2.1 τ4 := ⟨⟨e4, by decide, H4⟩, ⟨(gi 0 5 (by decide) (by decide) (by decide)).trans z5, by decide, fun k x hx => (by cases hx)⟩, (gi 0 7 (by decide) (by decide) (by decide)).trans z7, by decide, fun k x hx => (by cases hx)⟩
  refine rf_rebuild (lst := lst) (b := m0) (ms := W0.2.2.2) (by omega) F4 w34 ((gi 0 6 (by decide) (by decide) (by decide)).trans z6) (by decide) (fun j x hx => (by cases hx)) (fun x hx => (by cases hx)) (fun τ5 F5 g5 B5 O5 M5 => ?_)
  have w35 : W3 W0.1 W0.2.1 W0.2.2.1 τ5 := w34.keep (fun a ha => funext fun k => g5.2.2.1 a k (by have : W0.1.length = 3 := rfl; have : W0.2.1.length = 0 := rfl; have : W0.2.2.1.length = 0 := rfl; omega) (by have : W0.1.length = 3 := rfl; have : W0.2.1.length = 0 := rfl; have : W0.2.2.1.length = 0 := rfl; omega) (by have : W0.1.length = 3 := rfl; have : W0.2.1.length = 0 := rfl; have : W0.2.2.1.length = 0 := rfl; omega) (by have : W0.1.length = 3 := rfl; have : W0.2.1.length = 0 := rfl; have : W0.2.2.1.length = 0 := rfl; omega)) (g5.2.2.1 0 4 (by decide) (by decide) (by decide) (by decide)) (g5.2.2.1 0 5 (by decide) (by decide) (by decide) (by decide)) (g5.2.2.1 0 7 (by decide) (by decide) (by decide) (by decide))
  refine hK _ F5 (by rw [g5.1, s4, s1]) (fun a k q => by rw [g5.2.1, r4]; exact r1 a k q) (by rw [g5.2.1, r4]; exact r10) (fun a k q1 q2 q3 q4 q5 q6 q7 => ?_) (fun a q => by rw [g5.2.2.2 a q, l4, l1]) ?_ w35 ?_ B5 M5
  · rw [g5.2.2.1 a k q3 q4 q5 (by omega), gi a k q1 q2 (by omega), i1 a k (by omega) q6]
  · rw [g5.2.2.1 5 1 (by decide) (by decide) (by decide) (by decide), gi 5 1 (by decide) (by decide) (by decide)]
    exact z51
  · rw [g5.2.2.1 0 6 (by decide) (by decide) (by decide) (by decide), gi 0 6 (by decide) (by decide) (by decide)]
    exact z6
theorem rc_clear {W : Wld} {pg : Ast} {t : Nat → Int32} {n wy ch fuel rs : Nat} {rn : Option (Rs × Es)} {res : List Nat} {q : Nat} (hZ : ZK Z) (hd : 40 ≤ d) (h : RfA W pg t n wy ch fuel rs rn res q σ) (hK : ∀ τ, RfA W0 .nil t n wy ch fuel rs rn res q τ → τ.i 0 110 = 0 → K (.inl none) τ) : B_X23_clear_0 Z d σ K := by
  obtain ⟨d, rfl⟩ : ∃ e, d = e + 1 := ⟨d - 1, by omega⟩
  have h00 := h.w110 (v := 0)
  have F := h.fx
  obtain ⟨m0, lst, cap, m7, lst7, cap7, R, h1, h2, h3, h4, h5, h6, h7, h8, h9, h10⟩ := h00
  refine S_X23_clear_0 F (rf_beginning (lst := lst) (m0 := 0) hZ (by omega) R.fx (fun τ Fτ s r r10 i l e5 w3 e6 B Mm => ?_))
  have z0 : ∀ k, ¬ ((4 ≤ k ∧ k ≤ 7) ∨ k = 41) → τ.i 0 k = (σ.wi 0 110 (0 : Int32)).i 0 k := fun k z => i 0 k (by omega) (by omega) (by omega) (by omega) (by omega) (by omega) (by omega)
  have e : ∀ a, a = 2134 ∨ a = 2135 ∨ a = 2191 → τ.i a = (σ.wi 0 110 (0 : Int32)).i a := fun a z => funext fun k => i a k (by omega) (by omega) (by omega) (by omega) (by omega) (by omega) (by omega)
  have ls : ∀ {A : Nat} {l' : List Nat} {c : Nat}, (A = 6 ∨ A = 8) → LsS (σ.wi 0 110 (0 : Int32)) A l' c → LsS τ A l' c := fun {A l' c} hA L => L.mono (fun a s' z => by rw [s]; exact z) (i A 2 (by omega) (by omega) (by omega) (by omega) (by omega) (by omega) (by omega)) (r A 1 (by omega)) (fun b hb => funext fun k => r b k (by have := oa_ge R.fx (L.arr hb); omega))
  obtain ⟨⟨x1, x2, x3, x4⟩, x5⟩ := R.tx
  have RR : RefR W0 .nil t n 0 lst cap m7 lst7 cap7 τ := by
    refine ⟨Fτ, w3, ⟨e6, by decide⟩, fun j x hx => (by cases hx), B, ⟨⟨x1, (z0 15 (by decide)).trans x2, fun k hk => (i 37 k (by omega) (by omega) (by omega) (by omega) (by omega) (by omega) (by omega)).trans (x3 k hk), x4⟩, x5⟩, ⟨ls (Or.inl rfl) R.n5.1, e5, Nat.zero_le _, R.n5.2.2.2⟩, ⟨ls (Or.inr rfl) R.n7.1, (i 7 1 (by omega) (by omega) (by omega) (by omega) (by omega) (by omega) (by omega)).trans R.n7.2.1, R.n7.2.2⟩, ⟨R.dj.1, ?_⟩, r10⟩
    rw [r 6 1 (by decide), r 8 1 (by decide)]
    exact R.dj.2
  exact hK _ ⟨0, lst, cap, m7, lst7, cap7, RR, ⟨(z0 83 (by decide)).trans h1.1, h1.2⟩, ⟨(z0 82 (by decide)).trans h2.1, h2.2⟩, ⟨(z0 81 (by decide)).trans h3.1, h3.2⟩, MmR.new Mm, fun c hc => (by cases hc), (z0 112 (by decide)).trans h6, h7.keep (fun k z => z0 k (by omega)) (e _ (by decide)) (e _ (by decide)) (by rw [l 0 (by decide)]), h8.keep (z0 111 (by decide)) (e _ (by decide)), by omega, by rw [s]; exact h10⟩ ((z0 110 (by decide)).trans wi_eq)
end CLEAR

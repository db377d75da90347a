/-! PURE: nearer -/
def spM (ms : List (Mtd × Bool)) (m : Nat) : List Spc := ((ms[m - 1]?).map (·.1.2.2.2.1)).getD []
def tsM (ms : List (Mtd × Bool)) (m : Nat) : Ast := ((ms[m - 1]?).map (·.1.2.2.2.2.1)).getD .nil
def wyW (cs : List Cal) (c : Nat) : Nat := ((cs[c]?).map (·.2.2.2)).getD 0
def blW (ks : List Knd) (a b : Nat) : Bool := decide (b ∈ rwW ks 1 a)
def plI (Rw : List Nat) (y : Nat) : Int := match Rw.findIdx? (· == y) with
  | some i => i
  | none => -1
def fdO (ms : List (Mtd × Bool)) (pl m n : Nat) : Option Nat := (List.range pl).find? fun i => decide (kdW ms m i ≠ kdW ms n i)
def smI (W : Wld) (wy : Nat) (k : Nat → Nat) (m : Nat) : Nat → Int
  | 0 => 0
  | i + 1 => smI W wy k m i + plI (rwW W.1 wy (k i)) (kdW W.2.2.2 m i)
/-- the pair, nearer by kinds or by what is asked -/
noncomputable def rkI (W : Wld) (wy pl m n : Nat) (k : Nat → Nat) : Int := match fdO W.2.2.2 pl m n with
  | none => akI pl (blW W.1) k (spM W.2.2.2 m, tsM W.2.2.2 m) (spM W.2.2.2 n, tsM W.2.2.2 n)
  | some f =>
    if wyW W.2.1 (mcW W.2.2.2 m) = 0 then (if plI (rwW W.1 wy (k f)) (kdW W.2.2.2 m f) < plI (rwW W.1 wy (k f)) (kdW W.2.2.2 n f) then -1 else 1)
    else if wyW W.2.1 (mcW W.2.2.2 m) = 1 then (if ((List.range pl).all fun i => blW W.1 (kdW W.2.2.2 m i) (kdW W.2.2.2 n i)) = true then -1 else if ((List.range pl).all fun i => blW W.1 (kdW W.2.2.2 n i) (kdW W.2.2.2 m i)) = true then 1 else 0)
    else sg3 (smI W wy k m pl - smI W wy k n pl)
noncomputable def nrI (W : Wld) (wy m n : Nat) (k : Nat → Nat) : Int := if m = n then 0 else rkI W wy (plW W.2.1 (mcW W.2.2.2 m)) m n k
theorem akI_r (pl : Nat) (bl : Nat → Nat → Bool) (k : Nat → Nat) (x y : List Spc × Ast) : -1 ≤ akI pl bl k x y ∧ akI pl bl k x y ≤ 1 := by
  unfold akI
  split
  · omega
  · split <;> omega
theorem nrI_r (W : Wld) (wy m n : Nat) (k : Nat → Nat) : -1 ≤ nrI W wy m n k ∧ nrI W wy m n k ≤ 1 := by
  unfold nrI
  split
  · omega
  · unfold rkI
    split
    · exact akI_r _ _ _ _ _
    · split
      · split <;> omega
      · split
        · split
          · omega
          · split <;> omega
        · exact sg3_r _
/-! THE REFERENCE: the world at rest -/
def NrF (σ τ : Sg) : Prop := τ.sh = σ.sh ∧ (∀ a k, ¬ (a = 0 ∧ k = 51) → τ.r a k = σ.r a k) ∧ (∀ a k, ¬ (a = 0 ∧ (k = 47 ∨ k = 48 ∨ k = 50 ∨ k = 53 ∨ k = 54)) → ¬ (1933 ≤ a ∧ a ≤ 1935) → ¬ (2067 ≤ a ∧ a ≤ 2070) → τ.i a k = σ.i a k) ∧ ∀ a, ¬ (1936 ≤ a ∧ a ≤ 2066) → τ.l a = σ.l a
theorem NrF.refl (σ : Sg) : NrF σ σ := ⟨rfl, fun _ _ _ => rfl, fun _ _ _ _ _ => rfl, fun _ _ => rfl⟩
theorem NrF.tr {σ τ υ : Sg} (h : NrF σ τ) (g : NrF τ υ) : NrF σ υ := ⟨g.1.trans h.1, fun a k q => (g.2.1 a k q).trans (h.2.1 a k q), fun a k h1 h2 h3 => (g.2.2.1 a k h1 h2 h3).trans (h.2.2.1 a k h1 h2 h3), fun a h1 => (g.2.2.2 a h1).trans (h.2.2.2 a h1)⟩
theorem NrF.row {σ τ : Sg} (h : NrF σ τ) {a : Nat} (h0 : a ≠ 0) (h1 : ¬ (1933 ≤ a ∧ a ≤ 1935)) (h2 : ¬ (2067 ≤ a ∧ a ≤ 2070)) : τ.i a = σ.i a := funext fun k => h.2.2.1 a k (fun q => h0 q.1) h1 h2
theorem SeF.nr {σ τ : Sg} (h : SeF σ τ) : NrF σ τ := ⟨h.1, h.2.1, fun a k h1 h2 h3 => h.2.2.1 a k (fun q => h1 ⟨q.1, by omega⟩) (by omega) (by omega) (by omega) (by omega), fun a h1 => h.2.2.2 a (by omega) (by omega)⟩
def NwS (W : Wld) (lst : List Nat) (b wy : Nat) (σ : Sg) : Prop := FX ΦR σ.sh σ.r ∧ W3 W.1 W.2.1 W.2.2.1 σ ∧ (σ.i 0 6 = Int32.ofNat W.2.2.2.length ∧ W.2.2.2.length ≤ 120) ∧ MsL W.2.2.2 W.2.1 σ lst b ∧ (∀ a b, a < W.1.length → b < W.1.length → σ.i (1880 + 1 + a) b = if blW W.1 a b = true then 1 else 0) ∧ (σ.i 0 83 = Int32.ofNat wy ∧ wy < 3)
section NEAR
variable {Z : zT} {d : Nat} {W : Wld} {lst : List Nat} {b wy : Nat} {σ τ : Sg} {K : kS} {kA m n : Nat} {k : Nat → Nat}
theorem NwS.nr (h : NwS W lst b wy σ) (g : NrF σ τ) (hF : FX ΦR τ.sh τ.r) : NwS W lst b wy τ := by
  obtain ⟨h1, h2, ⟨h3, h3'⟩, h4, h5, h6, h7⟩ := h
  have hk := h2.1.2.1
  have hc := h2.2.1.2.1
  have hl := h2.2.2.2.1
  refine ⟨hF, h2.keep (fun a ha => g.row (by omega) (by omega) (by omega)) (g.2.2.1 0 4 (by decide) (by decide) (by decide)) (g.2.2.1 0 5 (by decide) (by decide) (by decide)) (g.2.2.1 0 7 (by decide) (by decide) (by decide)), ⟨(g.2.2.1 0 6 (by decide) (by decide) (by decide)).trans h3, h3'⟩, fun j x hx => ?_, fun a b ha hb => ?_, ⟨(g.2.2.1 0 83 (by decide) (by decide) (by decide)).trans h6, h7⟩⟩
  · have hj := (List.getElem?_eq_some_iff.mp hx).1
    refine (h4 j x hx).mono (fun _ _ z => z) (fun a a1 a2 => g.row (by omega) (by omega) (by omega)) (funext fun k => g.2.1 _ k (by omega)) (fun y hy hys => ?_)
    have := nd_ge h1 hys
    exact ⟨hy, by rw [g.1]; exact hys, g.row (by omega) (by omega) (by omega), g.2.2.2 y (by omega), funext fun k => g.2.1 y k (by omega)⟩
  · rw [g.row (by omega) (by omega) (by omega)]
    exact h5 a b ha hb
theorem sp_get {sp : List Spc} {i : Nat} (h : i < sp.length) : sp[i]? = some (sp.getD i (0, false, 0)) := by
  rw [List.getD_eq_getElem?_getD, List.getElem?_eq_getElem h]
  rfl
theorem oI_nn {z : Int} (h : 0 ≤ z) : Int32.ofInt z = Int32.ofNat z.toNat := by
  obtain ⟨y, rfl⟩ : ∃ y : Nat, z = (y : Int) := ⟨z.toNat, by omega⟩
  rfl
/-- a method, as the world and the heap have it -/
theorem NwS.mt (hW : WfW W) (H : NwS W lst b wy σ) (h1 : 1 ≤ m) (h2 : m ≤ W.2.2.2.length) : (mcW W.2.2.2 m < W.2.1.length ∧ 1 ≤ plW W.2.1 (mcW W.2.2.2 m) ∧ plW W.2.1 (mcW W.2.2.2 m) ≤ 3) ∧ (σ.i (2497 + 4 * m) 0 = Int32.ofNat (mcW W.2.2.2 m) ∧ σ.i (2497 + 4 * m) 3 = Int32.ofNat m) ∧ (∀ i, i < plW W.2.1 (mcW W.2.2.2 m) → σ.i (2497 + 4 * m + 1) i = Int32.ofNat (kdW W.2.2.2 m i) ∧ kdW W.2.2.2 m i < W.1.length) ∧ TkS (2497 + 4 * m) (plW W.2.1 (mcW W.2.2.2 m)) (spM W.2.2.2 m) (tsM W.2.2.2 m) σ ∧ ((tsM W.2.2.2 m = .nil ∨ tsW W.1.length (plW W.2.1 (mcW W.2.2.2 m)) (tsM W.2.2.2 m)) ∧ tH (tsM W.2.2.2 m) ≤ 18 ∧ lfN (tsM W.2.2.2 m) ≤ 6) ∧ (∀ i, i < plW W.2.1 (mcW W.2.2.2 m) → σ.i (2497 + 4 * m + 2) i = Int32.ofInt (eqI (spM W.2.2.2 m) i) ∧ (-2147483647 ≤ eqI (spM W.2.2.2 m) i ∧ eqI (spM W.2.2.2 m) i ≤ 2147483647)) := by
  have e : W.2.2.2[m - 1]? = some W.2.2.2[m - 1] := List.getElem?_eq_getElem (by omega)
  obtain ⟨kk, a1, a2, a3, a4, a5, a6, a7, a8, a9⟩ := hW.2.2 _ (List.mem_of_getElem? e)
  have Mt := H.2.2.2.1 (m - 1) _ e
  have hm120 := H.2.2.1.2
  obtain ⟨-, m0, -, -, m3, -, -, mS, mT, -⟩ := Mt
  rw [show 2501 + 4 * (m - 1) = 2497 + 4 * m by omega] at m0 m3 mS mT
  have emc : mcW W.2.2.2 m = kk := by
    unfold mcW
    rw [e]
    dsimp only
    rw [a1]
    rfl
  have esp : spM W.2.2.2 m = W.2.2.2[m - 1].1.2.2.2.1 := by
    unfold spM
    rw [e]
    rfl
  have ets : tsM W.2.2.2 m = W.2.2.2[m - 1].1.2.2.2.2.1 := by
    unfold tsM
    rw [e]
    rfl
  have hpl := plW_ok hW.2.1 a2
  rw [emc, esp, ets]
  obtain ⟨c1, c2, c3⟩ := H.2.1.2.1
  have hcl := c3 kk _ (List.getElem?_eq_getElem a2)
  have epl : plW W.2.1 kk = W.2.1[kk].2.1 := by
    unfold plW
    rw [List.getElem?_eq_getElem a2]
    rfl
  have ei0 : σ.i (2497 + 4 * m) 0 = Int32.ofNat kk := by
    rw [m0, a1]
    rfl
  have sp1 : ∀ i, i < plW W.2.1 kk → W.2.2.2[m - 1].1.2.2.2.1[i]? = some (W.2.2.2[m - 1].1.2.2.2.1.getD i (0, false, 0)) := fun i hi => sp_get (by omega)
  refine ⟨⟨a2, hpl⟩, ⟨ei0, ?_⟩, fun i hi => ?_, ⟨mt_p (m := m) (by omega), ⟨?_, ?_⟩, fun i hi => ?_, ?_⟩, ⟨a7, a8.2.2.2, a8.1⟩, fun i hi => ?_⟩
  · rw [m3, show m - 1 + 1 = m by omega]
  · have := a6 _ (List.mem_of_getElem? (sp1 i hi))
    have ek : kdW W.2.2.2 m i = (W.2.2.2[m - 1].1.2.2.2.1.getD i (0, false, 0)).1.toNat := by
      unfold kdW
      rw [e]
    rw [ek, (mS i _ (sp1 i hi)).1, oI_nn this.1.1]
    exact ⟨rfl, by omega⟩
  · rw [ei0]
    exact ib_oN (by omega) (by decide)
  · rw [ei0, oN_t (by omega), epl]
    exact hcl.2.1.2.2
  · rw [(mS i _ (sp1 i hi)).2.1]
    rfl
  · exact TsN.mono (fun y hy hys => ⟨trivial, hys, rfl, rfl, rfl⟩) _ _ mT
  · have := a6 _ (List.mem_of_getElem? (sp1 i hi))
    exact ⟨(mS i _ (sp1 i hi)).2.2, this.2⟩
theorem atL_le (x : Ast) : ∀ {kn pl : Nat}, tsW kn pl x → (atL x).length ≤ lfN x := by
  intro kn pl hW
  refine ts_ind (kn := kn) (pl := pl) (P := fun x => (atL x).length ≤ lfN x) ?_ ?_ ?_ ?_ x hW
  · intro v w pb mo _ _ _ _
    exact Nat.le_refl 1
  · intro v w _ _
    exact Nat.zero_le _
  · intro op v w a b ho _ _ ha hb
    rw [atL_2, if_neg (by omega), if_neg (by omega), lfN_2, if_neg (by omega), List.length_append]
    omega
  · intro v w a _ ha
    rw [atL_2, if_neg (by omega), if_neg (by omega), lfN_2, if_neg (by omega), List.length_append]
    have : (atL .nil).length = 0 := rfl
    omega
theorem eqL_le (pl : Nat) (sp : List Spc) : (eqL pl sp).length ≤ pl := by
  unfold eqL
  rw [List.length_map]
  have := List.length_filter_le (hsI sp) (List.range pl)
  rw [List.length_range] at this
  exact this
theorem atM_le {kn pl : Nat} {sp : List Spc} {x : Ast} (h : x = .nil ∨ tsW kn pl x) (hl : lfN x ≤ 6) (hp : pl ≤ 3) : (atM pl sp x).length ≤ 9 := by
  unfold atM
  rw [List.length_append]
  have := eqL_le pl sp
  have : (atL x).length ≤ 6 := by
    rcases h with rfl | h
    · exact Nat.zero_le _
    · exact Nat.le_trans (atL_le x h) hl
  omega
/-- the kinds asked for -/
def KnS (kA : Nat) (k : Nat → Nat) (kn pl : Nat) (σ : Sg) : Prop := (σ.sh[kA]? = some (Sh.arr 0 3) ∧ (kA ≠ 0 ∧ ¬ (1933 ≤ kA ∧ kA ≤ 1935) ∧ ¬ (2067 ≤ kA ∧ kA ≤ 2070))) ∧ (∀ i, i < pl → σ.i kA i = Int32.ofNat (k i) ∧ k i < kn) ∧ ∀ i, pl ≤ i → k i = 0
theorem KnS.nr {kn pl : Nat} (h : KnS kA k kn pl σ) (g : NrF σ τ) : KnS kA k kn pl τ := by
  obtain ⟨⟨h1, h2, h3, h4⟩, h5, h6⟩ := h
  exact ⟨⟨by rw [g.1]; exact h1, h2, h3, h4⟩, fun i hi => by rw [g.row h2 h3 h4]; exact h5 i hi, h6⟩
/-- asksMore() -/
theorem rf_asksMore (hW : WfW W) (hd : 210 ≤ d) (H : NwS W lst b wy σ) (hm : 1 ≤ m ∧ m ≤ W.2.2.2.length) (hn : 1 ≤ n ∧ n ≤ W.2.2.2.length) (hc : mcW W.2.2.2 n = mcW W.2.2.2 m) (hk : KnS kA k W.1.length (plW W.2.1 (mcW W.2.2.2 m)) σ)
    (h : ∀ τ, FX ΦR τ.sh τ.r → NrF σ τ → τ.i 2069 = σ.i 2069 → τ.i 2070 = σ.i 2070 → K (.inl (some (.int (Int32.ofInt (akI (plW W.2.1 (mcW W.2.2.2 m)) (blW W.1) k (spM W.2.2.2 m, tsM W.2.2.2 m) (spM W.2.2.2 n, tsM W.2.2.2 n)))))) τ) : B_X23_asksMore_0 Z d σ (2497 + 4 * m) (2497 + 4 * n) kA K := by
  obtain ⟨d, rfl⟩ : ∃ e, d = e + 1 := ⟨d - 1, by omega⟩
  obtain ⟨⟨m1, m2, m2'⟩, ⟨m3, m3'⟩, m4, m5, ⟨m6, m6', m6''⟩, m7⟩ := H.mt hW hm.1 hm.2
  obtain ⟨-, ⟨n3, n3'⟩, n4, n5, ⟨n6, n6', n6''⟩, n7⟩ := H.mt hW hn.1 hn.2
  rw [hc] at n4 n5 n6 n7
  have h120 := H.2.2.1.2
  have hk24 := H.2.1.1.2.1
  obtain ⟨σ1, hσ1⟩ : ∃ x, x = ((σ.wi 2067 0 (σ.i (2497 + 4 * m) 3)).wi 2067 1 ((σ.wi 2067 0 (σ.i (2497 + 4 * m) 3)).i (2497 + 4 * n) 3)).wi 0 50 (2 : Int32) := ⟨_, rfl⟩
  have g1 : NrF σ σ1 := by
    rw [hσ1]
    refine ⟨rfl, fun a j _ => rfl, fun a j q1 q2 q3 => ?_, fun a _ => rfl⟩
    rw [wi_ne (by omega), wi_ne (by omega), wi_ne (by omega)]
  have F1 : FX ΦR σ1.sh σ1.r := by
    rw [hσ1]
    exact H.1
  have e0 : σ1.i 2067 0 = Int32.ofNat m := by
    rw [hσ1, wi_ne (by decide), wi_ne (by decide), wi_at, m3']
  have e1 : σ1.i 2067 1 = Int32.ofNat n := by
    rw [hσ1, wi_ne (by decide), wi_at, wi_ne (by omega), n3']
  have e50 : σ1.i 0 50 = Int32.ofNat 2 := by
    rw [hσ1, wi_at]
    rfl
  have H1 := H.nr g1 F1
  obtain ⟨-, -, -, m5', -, m7'⟩ := H1.mt hW hm.1 hm.2
  obtain ⟨-, -, -, n5', -, n7'⟩ := H1.mt hW hn.1 hn.2
  rw [hc] at n5' n7'
  have hk1 := hk.nr g1
  refine S_X23_asksMore_0 H.1 ⟨m5.1, n5.1, ?_⟩
  rw [← hσ1]
  have hP : SeP kA (blW W.1) k W.1.length (plW W.2.1 (mcW W.2.2.2 m)) [(m, spM W.2.2.2 m, tsM W.2.2.2 m), (n, spM W.2.2.2 n, tsM W.2.2.2 n)] σ1 := by
    refine ⟨F1, ⟨hk1.1.1, hk.1.2.1, by have := hk.1.2.2.1; omega, by have := hk.1.2.2.1; omega, by have := hk.1.2.2.1; omega, by have := hk.1.2.2.2; omega, by have := hk.1.2.2.2; omega⟩, m2', hk1.2.1, hk24.2, H1.2.2.2.2.1, ⟨e50, by show 2 ≤ 8; decide⟩, fun j y hy => ?_, ?_⟩
    · match j, hy with
      | 0, hy =>
        cases hy
        exact ⟨e0, by dsimp only; omega, m5', ⟨m6, m6'⟩, m7'⟩
      | 1, hy =>
        cases hy
        exact ⟨e1, by dsimp only; omega, n5', ⟨n6, n6'⟩, n7'⟩
      | j + 2, hy => cases hy
    · have l1 := atM_le (sp := spM W.2.2.2 m) m6 m6'' m2'
      have l2 := atM_le (sp := spM W.2.2.2 n) n6 n6'' m2'
      show (atM (plW W.2.1 (mcW W.2.2.2 m)) (spM W.2.2.2 m) (tsM W.2.2.2 m) ++ (atM (plW W.2.1 (mcW W.2.2.2 m)) (spM W.2.2.2 n) (tsM W.2.2.2 n) ++ [])).length ≤ 128
      rw [List.append_nil, List.length_append]
      omega
  refine rf_see (by omega) hP (fun τ s Fτ g2 hs hq => ?_)
  have s1 := hs 1 (by show 1 < 4; decide)
  have s2 := hs 2 (by show 2 < 4; decide)
  have q1 : s 1 = pD (alP (plW W.2.1 (mcW W.2.2.2 m)) (blW W.1) k (spM W.2.2.2 m, tsM W.2.2.2 m) (spM W.2.2.2 n, tsM W.2.2.2 n)) := by
    rw [Bool.eq_iff_iff, hq 1 (by show 1 < 4; decide), pD_iff]
    unfold alP
    refine exists_congr fun v => and_congr Iff.rfl ?_
    show mkV _ _ _ [(m, spM W.2.2.2 m, tsM W.2.2.2 m), (n, spM W.2.2.2 n, tsM W.2.2.2 n)] v 2 = 1 ↔ _
    rw [mkV_2 _ _ _ m n (spM W.2.2.2 m, tsM W.2.2.2 m) (spM W.2.2.2 n, tsM W.2.2.2 n) v]
    cases tkM (plW W.2.1 (mcW W.2.2.2 m)) (spM W.2.2.2 m, tsM W.2.2.2 m).1 (blW W.1) k (spM W.2.2.2 m, tsM W.2.2.2 m).2 v <;> cases tkM (plW W.2.1 (mcW W.2.2.2 m)) (spM W.2.2.2 n, tsM W.2.2.2 n).1 (blW W.1) k (spM W.2.2.2 n, tsM W.2.2.2 n).2 v <;> decide
  have q2 : s 2 = pD (alP (plW W.2.1 (mcW W.2.2.2 m)) (blW W.1) k (spM W.2.2.2 n, tsM W.2.2.2 n) (spM W.2.2.2 m, tsM W.2.2.2 m)) := by
    rw [Bool.eq_iff_iff, hq 2 (by show 2 < 4; decide), pD_iff]
    unfold alP
    refine exists_congr fun v => and_congr Iff.rfl ?_
    show mkV _ _ _ [(m, spM W.2.2.2 m, tsM W.2.2.2 m), (n, spM W.2.2.2 n, tsM W.2.2.2 n)] v 2 = 2 ↔ _
    rw [mkV_2 _ _ _ m n (spM W.2.2.2 m, tsM W.2.2.2 m) (spM W.2.2.2 n, tsM W.2.2.2 n) v]
    cases tkM (plW W.2.1 (mcW W.2.2.2 m)) (spM W.2.2.2 m, tsM W.2.2.2 m).1 (blW W.1) k (spM W.2.2.2 m, tsM W.2.2.2 m).2 v <;> cases tkM (plW W.2.1 (mcW W.2.2.2 m)) (spM W.2.2.2 n, tsM W.2.2.2 n).1 (blW W.1) k (spM W.2.2.2 n, tsM W.2.2.2 n).2 v <;> decide
  have k69 : τ.i 2069 = σ.i 2069 := (funext fun j => g2.2.2.1 2069 j (by omega) (by decide) (by decide) (by decide) (by decide)).trans (by rw [hσ1, wi_row (by decide), wi_row (by decide), wi_row (by decide)])
  have k70 : τ.i 2070 = σ.i 2070 := (funext fun j => g2.2.2.1 2070 j (by omega) (by decide) (by decide) (by decide) (by decide)).trans (by rw [hσ1, wi_row (by decide), wi_row (by decide), wi_row (by decide)])
  have hK := h τ Fτ (g1.tr g2.nr) k69 k70
  unfold akI at hK
  rw [← q1, ← q2] at hK
  show (¬ (τ.i 2068 1) = (τ.i 2068 2) → ((τ.i 2068 1) = 0 → K (.inl (some (.int (-1)))) τ) ∧ (¬ (τ.i 2068 1) = 0 → K (.inl (some (.int 1))) τ)) ∧ ((τ.i 2068 1) = (τ.i 2068 2) → K (.inl (some (.int 0))) τ)
  rw [s1, s2]
  cases hs1 : s 1 <;> cases hs2 : s 2 <;> rw [hs1, hs2] at hK
  · exact ⟨fun z => absurd rfl z, fun _ => hK⟩
  · exact ⟨fun _ => ⟨fun _ => hK, fun z => absurd rfl z⟩, fun z => absurd z (by decide)⟩
  · exact ⟨fun _ => ⟨fun z => absurd z (by decide), fun _ => hK⟩, fun z => absurd z (by decide)⟩
  · exact ⟨fun z => absurd rfl z, fun _ => hK⟩
end NEAR

/-! PURE: a call, judged -/
/-- the kinds of the r-th row -/
def rkK (W : Wld) (pl r i : Nat) : Nat := if i < pl then (mkW W.1).getD (r / (mkW W.1).length ^ (pl - 1 - i) % (mkW W.1).length) 0 else 0
noncomputable def meR (W : Wld) (c r : Nat) : Nat := meS W ((stW W c (rkK W (plW W.2.1 c) r) W.2.2.2.length).filter (akB W))
/-- rows from r on: whole or not, and the row -/
noncomputable def jdF (W : Wld) (wy c : Nat) : Nat → Nat → Bool → Nat → Int × Option Nat
  | 0, _, ps, _ => (if ps = true then -1 else 0, none)
  | f + 1, r, ps, sm => if 8 < meR W c r ∨ (0 < meR W c r ∧ 200 < sm + 1) then jdF W wy c f (r + 1) true (if 0 < meR W c r then sm + 1 else sm)
    else if bdN W wy c (rkK W (plW W.2.1 c) r) = 0 then jdF W wy c f (r + 1) ps (if 0 < meR W c r then sm + 1 else sm)
    else (if ps = true then -1 else (bdN W wy c (rkK W (plW W.2.1 c) r) : Int), if ps = true then none else some r)
noncomputable def jdW (W : Wld) (wy c : Nat) : Int × Option Nat := jdF W wy c ((mkW W.1).length ^ plW W.2.1 c) 0 false 0
/-- the kind of the row at a place, -1 if there is none -/
def rwO (W : Wld) (pl : Nat) (o : Option Nat) (i : Nat) : Int := match o with
  | none => -1
  | some r => if i < pl then (rkK W pl r i : Int) else -1
section JUDGE3
variable {Z : zT} {W : Wld} {lst : List Nat} {b wy : Nat} {σ τ : Sg} {K : kS} {c : Nat}
def jdE (a k : Nat) : Prop := (a = 0 ∧ (k = 74 ∨ k = 75 ∨ k = 98 ∨ k = 102 ∨ k = 106 ∨ k = 107 ∨ k = 108)) ∨ a = 2131 ∨ (2184 ≤ a ∧ a ≤ 2190)
theorem jd_nw : ∀ a k, jdE a k → nwE a k := fun a k q => by
  unfold jdE at q
  unfold nwE
  omega
theorem meS_le {L : List Nat} (h : ∀ x ∈ L, meM W.2.2.2 x ≤ 9) : meS W L ≤ 9 * L.length := by
  unfold meS
  induction L with
  | nil => exact Nat.le_refl _
  | cons x L ih =>
    have h1 := h x (List.mem_cons_self ..)
    have h2 := ih (fun y hy => h y (List.mem_cons_of_mem _ hy))
    rw [List.map_cons, List.sum_cons, List.length_cons]
    omega
theorem bdN_le (W : Wld) (wy c : Nat) (k : Nat → Nat) : bdN W wy c k ≤ 2 := by
  unfold bdN
  split
  · omega
  · split <;> omega
/-- cells(c, false) -/
theorem rf_cells0 {d n : Nat} (F : FX ΦR σ.sh σ.r) (H : W3 W.1 W.2.1 W.2.2.1 σ) (hc : c < W.2.1.length) (hn : σ.i 0 41 = Int32.ofNat n) (h : K (.inl (some (.int (Int32.ofNat (n ^ plW W.2.1 c))))) σ) : B_X23_cells_0 Z (d + 1) σ (Int32.ofNat c) 0 K := by
  have hc24 := H.2.1.2.1
  have hpl := pl_le H hc
  obtain ⟨-, -, w3⟩ := wyW_ok H hc
  have ibc : ib (Int32.ofNat c) 24 := ib_oN (by omega) (by decide)
  have loop : ∀ r i, plW W.2.1 c - i = r → i ≤ plW W.2.1 c → B_X23_cells_14 Z (d + 1) σ (Int32.ofNat c) 0 (Int32.ofNat (n ^ i)) (Int32.ofNat i) K := by
    intro r
    induction r with
    | zero =>
      intro i hr hi
      have e : i = plW W.2.1 c := by omega
      subst e
      exact S_X23_cells_14 F ⟨ibc, fun _ => h, fun z => absurd (by rw [oN_t (by omega), w3]; exact Int32.le_refl _) z⟩
    | succ r ih =>
      intro i hr hi
      refine S_X23_cells_14 F ⟨ibc, fun z => ?_, fun _ => ⟨fun _ => ?_, fun z => absurd rfl z⟩⟩
      · exfalso
        rw [oN_t (by omega), w3, oN_le (by omega) (by omega)] at z
        omega
      · rw [hn, oN_mul, oN_1, ← Nat.pow_succ]
        exact ih (i + 1) (by omega) (by omega)
  exact S_X23_cells_0 F ⟨fun _ => loop _ 0 rfl (Nat.zero_le _), fun z => absurd rfl z⟩
/-- judge() -/
theorem rf_judge {d : Nat} (hW : WfW W) (hd : 270 ≤ d) (H : NwS W lst b wy σ) (M : MmR W wy σ) (R : RbR W.1 W.2.1 W.2.2.2 σ) (hmk : 1 ≤ (mkW W.1).length) (hc : c < W.2.1.length)
    (h : ∀ τ, FX ΦR τ.sh τ.r → GF jdE σ τ → MmR W wy τ → τ.i 0 98 = Int32.ofInt (jdW W wy c).1 → (∀ i, i < 3 → τ.i 2184 i = Int32.ofInt (rwO W (plW W.2.1 c) (jdW W wy c).2 i)) → K (.inl none) τ) : B_X23_judge_0 Z d σ (Int32.ofNat c) K := by
  obtain ⟨d, rfl⟩ : ∃ e, d = e + 1 := ⟨d - 1, by omega⟩
  have hc24 := H.2.1.2.1.2.1
  have hk24 := H.2.1.1.2.1
  have h120 := H.2.2.1.2
  have hpl := pl_le H.2.1 hc
  have hml := mk_len W
  have pc : sh0R[2409 + 3 * c]? = some (Sh.obj 14) := kE_2 (by omega)
  have ibc : ib (Int32.ofNat c) 24 := ib_oN (by omega) (by decide)
  have hmany : (mkW W.1).length ^ plW W.2.1 c ≤ 13824 := by
    have h1 : (mkW W.1).length ^ plW W.2.1 c ≤ 24 ^ plW W.2.1 c := Nat.pow_le_pow_left (by omega) _
    have h2 : (24 : Nat) ^ plW W.2.1 c ≤ 24 ^ 3 := Nat.pow_le_pow_right (by decide) hpl.2
    have h3 : (24 : Nat) ^ 3 = 13824 := by decide
    omega
  have hgd : ∀ x, x < (mkW W.1).length → (mkW W.1)[x]? = some ((mkW W.1).getD x 0) := fun x hx => by
    rw [List.getD_eq_getElem?_getD, List.getElem?_eq_getElem hx]
    rfl
  have hrk : ∀ r i, i < plW W.2.1 c → rkK W (plW W.2.1 c) r i < W.1.length := fun r i hi => by
    unfold rkK
    rw [if_pos hi]
    exact mk_lt (List.mem_of_getElem? (hgd _ (Nat.mod_lt _ (by omega))))
  have sh85 : ∀ {τ : Sg}, τ.sh = σ.sh → τ.sh[2185]? = some (Sh.arr 0 3) := fun {τ} e => by
    rw [e]
    exact H.1.s (by decide +kernel)
  have sta : ∀ {τ : Sg}, GF jdE σ τ → FX ΦR τ.sh τ.r → NwS W lst b wy τ ∧ τ.i 0 41 = Int32.ofNat (mkW W.1).length ∧ (∀ (i y : Nat), (mkW W.1)[i]? = some y → τ.i 1932 i = Int32.ofNat y) ∧ MnS τ W.2.1.length (mcW W.2.2.2) (gnW W.2.2.2) (W.2.2.2.length + 1) ∧ τ.i (2409 + 3 * c) 1 = Int32.ofNat (plW W.2.1 c) := fun {τ} g F => by
    have Hτ := H.ge g jd_nw F
    refine ⟨Hτ, (g.2.2.1 0 41 (by unfold jdE; omega) (by decide) (by decide) (by decide)).trans R.2.1.1, fun i y hy => ?_, fun c' m hc' m1 m2 => ?_, (wyW_ok Hτ.2.1 hc).2.2⟩
    · rw [g.row (fun j z => by unfold jdE at z; omega) (by decide) (by decide) (by decide)]
      exact R.2.1.2 i y hy
    · unfold st2
      rw [g.2.2.2 (1905 + 1 + c') (by omega)]
      exact R.2.2.1 c' m hc' m1 m2
  -- rows from r on
  have rows : ∀ f r (ps : Bool) sm τ, (mkW W.1).length ^ plW W.2.1 c - r = f → r ≤ (mkW W.1).length ^ plW W.2.1 c → sm ≤ r → jdW W wy c = jdF W wy c f r ps sm → GF jdE σ τ → FX ΦR τ.sh τ.r → MmR W wy τ → MkS W c τ → τ.i 0 98 = 0 → (∀ i, i < 3 → τ.i 2184 i = -1) → B_X23_judge_56 Z (d + 1) τ (Int32.ofNat c) (2409 + 3 * c) (if ps = true then 1 else 0) (Int32.ofNat ((mkW W.1).length ^ plW W.2.1 c)) (Int32.ofNat sm) (Int32.ofNat r) K := by
    intro f
    induction f with
    | zero =>
      intro r ps sm τ hf hr hsm hjd g F Mτ Mk e98 e84
      have e : r = (mkW W.1).length ^ plW W.2.1 c := by omega
      rw [jdF] at hjd
      refine S_X23_judge_56 F pc ⟨fun _ => ⟨fun z => ?_, fun z => ?_⟩, fun z => absurd (by rw [e]; exact Int32.le_refl _) z⟩
      · have hps : ps = false := by
          cases q : ps with
          | false => rfl
          | true =>
            rw [q] at z
            exact absurd z (by decide)
        rw [hps] at hjd
        refine h τ F g Mτ (by rw [hjd]; exact e98) (fun i hi => ?_)
        rw [hjd]
        exact e84 i hi
      · have hps : ps = true := by
          cases q : ps with
          | true => rfl
          | false =>
            rw [q] at z
            exact absurd rfl z
        rw [hps] at hjd
        refine h _ F (g.tr (GF.wi (by unfold jdE; omega))) (Mτ.same (wi_row (by decide)) (wi_row (by decide))) (by rw [hjd, wi_at]; rfl) (fun i hi => ?_)
        rw [hjd, wi_ne (by omega)]
        exact e84 i hi
    | succ f ih =>
      intro r ps sm τ hf hr hsm hjd g F Mτ Mk e98 e84
      have hrl : r < (mkW W.1).length ^ plW W.2.1 c := by omega
      obtain ⟨Hτ, s41, s1932, sMn, sPl⟩ := sta g F
      -- the kinds of the row
      have kinds : ∀ u t τ, plW W.2.1 c - t = u → t ≤ plW W.2.1 c → GF jdE σ τ → FX ΦR τ.sh τ.r → MmR W wy τ → MkS W c τ → τ.i 0 98 = 0 → (∀ i, i < 3 → τ.i 2184 i = -1) → (∀ i, i < plW W.2.1 c → plW W.2.1 c - 1 - t < i ∨ plW W.2.1 c ≤ t → τ.i 2185 i = Int32.ofNat (rkK W (plW W.2.1 c) r i)) → (∀ τ, GF jdE σ τ → FX ΦR τ.sh τ.r → MmR W wy τ → MkS W c τ → τ.i 0 98 = 0 → (∀ i, i < 3 → τ.i 2184 i = -1) → (∀ i, i < plW W.2.1 c → τ.i 2185 i = Int32.ofNat (rkK W (plW W.2.1 c) r i)) → B_X23_judge_75 Z (d + 1) τ (Int32.ofNat c) (2409 + 3 * c) (if ps = true then 1 else 0) (Int32.ofNat ((mkW W.1).length ^ plW W.2.1 c)) (Int32.ofNat sm) (Int32.ofNat r) (Int32.ofNat (r / (mkW W.1).length ^ plW W.2.1 c)) (-1) K) → B_X23_judge_75 Z (d + 1) τ (Int32.ofNat c) (2409 + 3 * c) (if ps = true then 1 else 0) (Int32.ofNat ((mkW W.1).length ^ plW W.2.1 c)) (Int32.ofNat sm) (Int32.ofNat r) (Int32.ofNat (r / (mkW W.1).length ^ t)) (Int32.ofInt ((plW W.2.1 c : Int) - 1 - t)) K := by
        intro u
        induction u with
        | zero =>
          intro t τ hu ht g F Mτ Mk e98 e84 e85 nx
          have e : t = plW W.2.1 c := by omega
          subst e
          have := nx τ g F Mτ Mk e98 e84 (fun i hi => e85 i hi (Or.inr (Nat.le_refl _)))
          rw [show ((plW W.2.1 c : Int) - 1 - (plW W.2.1 c : Nat)) = -1 by omega]
          exact this
        | succ u ihu =>
          intro t τ hu ht g F Mτ Mk e98 e84 e85 nx
          obtain ⟨Hτ, s41, s1932, sMn, sPl⟩ := sta g F
          have hti : ((plW W.2.1 c : Int) - 1 - t) = ((plW W.2.1 c - 1 - t : Nat) : Int) := by omega
          have hdv : r / (mkW W.1).length ^ t ≤ r := Nat.div_le_self _ _
          have hmd : r / (mkW W.1).length ^ t % (mkW W.1).length < (mkW W.1).length := Nat.mod_lt _ (by omega)
          have n0 : ¬ τ.i 0 41 = 0 := fun z => by
            rw [s41, show (0 : Int32) = Int32.ofNat 0 from rfl, oN_eq (by omega) (by omega)] at z
            omega
          have ein : Int32.ofInt ((plW W.2.1 c : Int) - 1 - t) = Int32.ofNat (plW W.2.1 c - 1 - t) := by rw [hti]; rfl
          rw [ein]
          refine S_X23_judge_75 F pc ⟨fun z => ?_, fun _ => ⟨n0, ?_, ib_oN (by omega) (by decide), n0, ?_⟩⟩
          · exfalso
            have := (oN_lt (b := 0) (by omega) (by omega)).mp z
            omega
          · rw [s41, oN_irm (by omega) (by omega)]
            exact ib_oN (by omega) (by decide)
          · rw [s41, oN_irm (by omega) (by omega), oN_t (by omega), oN_t (by omega), s1932 _ _ (hgd _ hmd), oN_div (by omega) (by omega), Nat.div_div_eq_div_mul, ← Nat.pow_succ]
            have e2 : Int32.ofNat (plW W.2.1 c - 1 - t) + (-1) = Int32.ofInt ((plW W.2.1 c : Int) - 1 - ((t + 1 : Nat) : Int)) := by
              rw [← ein, show ((plW W.2.1 c : Int) - 1 - ((t + 1 : Nat) : Int)) = ((plW W.2.1 c : Int) - 1 - t) + (-1) by omega, Int32.ofInt_add]
              rfl
            rw [e2]
            refine ihu (t + 1) _ (by omega) (by omega) (g.tr (GF.wi (by unfold jdE; omega))) F (Mτ.same (wi_row (by decide)) (wi_row (by decide))) (Mk.ge (E := fun a j => a = 2185) (GF.wi rfl) (by decide) (fun a j q z => by omega)) (by rw [wi_ne (by omega)]; exact e98) (fun i hi => by rw [wi_ne (by omega)]; exact e84 i hi) (fun i hi hor => ?_) nx
            by_cases q : i = plW W.2.1 c - 1 - t
            · rw [q, wi_at]
              unfold rkK
              rw [if_pos (by omega), show plW W.2.1 c - 1 - (plW W.2.1 c - 1 - t) = t by omega]
            · rw [wi_ne (fun z => q z.2)]
              exact e85 i hi (by omega)
      refine S_X23_judge_56 F pc ⟨fun z => ?_, fun _ => ?_⟩
      · exfalso
        rw [oN_le (by omega) (by omega)] at z
        omega
      · have e0 : (τ.i (2409 + 3 * c) 1) - (1 : Int32) = Int32.ofInt ((plW W.2.1 c : Int) - 1 - (0 : Nat)) := by
          rw [sPl, oN_p1 hpl.1, show ((plW W.2.1 c : Int) - 1 - (0 : Nat)) = ((plW W.2.1 c - 1 : Nat) : Int) by omega]
          rfl
        rw [e0]
        have k0 := kinds _ 0 τ rfl (Nat.zero_le _) g F Mτ Mk e98 e84 (fun i hi hor => by omega)
        rw [Nat.pow_zero, Nat.div_one] at k0
        refine k0 (fun τ1 g1 F1 M1 Mk1 e98 e84 e85 => ?_)
        clear k0 kinds
        obtain ⟨H1, t41, t1932, tMn, tPl⟩ := sta g1 F1
        have hK : KnS 2185 (rkK W (plW W.2.1 c) r) W.1.length (plW W.2.1 c) τ1 := ⟨⟨sh85 g1.1, by decide, by decide, by decide⟩, fun i hi => ⟨e85 i hi, hrk r i hi⟩, fun i hi => by unfold rkK; rw [if_neg (by omega)]⟩
        refine S_X23_judge_75 F1 pc ⟨fun _ => ?_, fun z => absurd (by decide) z⟩
        refine rf_collect hW (by omega) H1 tMn hc hK (fun τ2 F2 g2 x1 x2 C2 => ?_)
        have g2J : GF jdE τ1 τ2 := g2.le (fun a j q => by unfold jdE; omega)
        have gT := g1.tr g2J
        have M2 := M1.same x1 x2
        have Mk2 := Mk1.ge g2 (by omega) (fun a j q z => by omega)
        have f98 : τ2.i 0 98 = 0 := (g2.2.2.1 0 98 (by omega) (by decide) (by decide) (by decide)).trans e98
        have f84 : ∀ i, i < 3 → τ2.i 2184 i = -1 := fun i hi => by
          rw [g2.row (fun j z => by omega) (by decide) (by decide) (by decide)]
          exact e84 i hi
        have hK2 := hK.ge g2 (fun j z => by omega)
        have f85 : ∀ i, i < plW W.2.1 c → τ2.i 2185 i = Int32.ofNat (rkK W (plW W.2.1 c) r i) := fun i hi => (hK2.2.1 i hi).1
        obtain ⟨H2, u41, u1932, uMn, uPl⟩ := sta gT F2
        have hme : meS W ((stW W c (rkK W (plW W.2.1 c) r) W.2.2.2.length).filter (akB W)) ≤ 1080 := by
          have h1 := meS_le (W := W) (L := (stW W c (rkK W (plW W.2.1 c) r) W.2.2.2.length).filter (akB W)) (fun x hx => by
            obtain ⟨a1, -⟩ := stW_mem x (List.mem_filter.mp hx).1
            exact (H2.me hW a1.1 a1.2).2.1)
          have h2 := List.length_filter_le (akB W) (stW W c (rkK W (plW W.2.1 c) r) W.2.2.2.length)
          have h3 := stW_len W c (rkK W (plW W.2.1 c) r) W.2.2.2.length
          omega
        have e108 : τ2.i 0 108 = Int32.ofNat (meR W c r) := C2.2.2
        have hme : meR W c r ≤ 1080 := hme
        have hb2 := bdN_le W wy c (rkK W (plW W.2.1 c) r)
        rw [jdF] at hjd
        -- on to the next row
        have next : ∀ (ps' : Bool) (sm' : Nat) υ, sm' = (if 0 < meR W c r then sm + 1 else sm) → jdW W wy c = jdF W wy c f (r + 1) ps' sm' → GF jdE σ υ → FX ΦR υ.sh υ.r → MmR W wy υ → MkS W c υ → υ.i 0 98 = 0 → (∀ i, i < 3 → υ.i 2184 i = -1) → B_X23_judge_56 Z (d + 1) υ (Int32.ofNat c) (2409 + 3 * c) (if ps' = true then 1 else 0) (Int32.ofNat ((mkW W.1).length ^ plW W.2.1 c)) (Int32.ofNat sm') (Int32.ofNat r + 1) K := by
          intro ps' sm' υ hsm' hj gυ Fυ Mυ Mkυ y98 y84
          rw [oN_1]
          refine ih (r + 1) ps' sm' υ (by omega) (by omega) ?_ hj gυ Fυ Mυ Mkυ y98 y84
          rw [hsm']
          split <;> omega
        -- the row is judged
        have p158 : ¬ (8 < meR W c r ∨ (0 < meR W c r ∧ 200 < sm + 1)) → ∀ sm' : Nat, sm' = (if 0 < meR W c r then sm + 1 else sm) → B_X23_judge_158 Z (d + 1) τ2 (Int32.ofNat c) (2409 + 3 * c) (if ps = true then 1 else 0) (Int32.ofNat ((mkW W.1).length ^ plW W.2.1 c)) (Int32.ofNat sm') (Int32.ofNat r) K := by
          intro hno sm' hsm'
          rw [if_neg hno] at hjd
          have h8 : meS W ((stW W c (rkK W (plW W.2.1 c) r) W.2.2.2.length).filter (akB W)) ≤ 8 := by
            have : ¬ 8 < meR W c r := fun q => hno (Or.inl q)
            show meR W c r ≤ 8
            omega
          refine S_X23_judge_158 F2 pc (rf_bad (d := d) hW (by omega) H2 M2 hc hK2 C2 h8 Mk2 (fun τ3 F3 g3 M3 Mk3 => ?_))
          have g3J : GF jdE τ2 τ3 := g3.le (fun a j q => by unfold bdE at q; unfold jdE; omega)
          have gT3 := gT.tr g3J
          have z98 : τ3.i 0 98 = 0 := (g3.2.2.1 0 98 (by unfold bdE; omega) (by decide) (by decide) (by decide)).trans f98
          have z84 : ∀ i, i < 3 → τ3.i 2184 i = -1 := fun i hi => by
            rw [g3.row (fun j z => by unfold bdE at z; omega) (by decide) (by decide) (by decide)]
            exact f84 i hi
          have z85 : ∀ i, i < plW W.2.1 c → τ3.i 2185 i = Int32.ofNat (rkK W (plW W.2.1 c) r i) := fun i hi => by
            rw [g3.row (fun j z => by unfold bdE at z; omega) (by decide) (by decide) (by decide)]
            exact f85 i hi
          refine ⟨fun z => ?_, fun z => ?_⟩
          · have hb0 : bdN W wy c (rkK W (plW W.2.1 c) r) ≠ 0 := fun q => z (by rw [q]; rfl)
            rw [if_neg hb0] at hjd
            -- the row is kept
            have keep : ps = false → ∀ u i υ, plW W.2.1 c - i = u → i ≤ plW W.2.1 c → GF jdE σ υ → FX ΦR υ.sh υ.r → MmR W wy υ → υ.i 0 98 = Int32.ofInt (jdW W wy c).1 → (∀ j, j < plW W.2.1 c → υ.i 2185 j = Int32.ofNat (rkK W (plW W.2.1 c) r j)) → (∀ j, j < 3 → υ.i 2184 j = if j < i then Int32.ofNat (rkK W (plW W.2.1 c) r j) else -1) → B_X23_judge_190 Z (d + 1) υ (2409 + 3 * c) (if ps = true then 1 else 0) (Int32.ofNat i) K := by
              intro hps u
              rw [hps] at hjd
              have hjd2 : (jdW W wy c).2 = some r := by rw [hjd]; rfl
              induction u with
              | zero =>
                intro i υ hu hi gυ Fυ Mυ y98 y85 y84
                have e : i = plW W.2.1 c := by omega
                subst e
                obtain ⟨-, -, -, -, vPl⟩ := sta gυ Fυ
                refine S_X23_judge_190 Fυ pc ⟨fun _ => h υ Fυ gυ Mυ y98 (fun j hj => ?_), fun w => absurd (by rw [vPl]; exact Int32.le_refl _) w⟩
                rw [y84 j hj, hjd2]
                show _ = Int32.ofInt (if j < plW W.2.1 c then (rkK W (plW W.2.1 c) r j : Int) else -1)
                split <;> rfl
              | succ u ihu =>
                intro i υ hu hi gυ Fυ Mυ y98 y85 y84
                obtain ⟨-, -, -, -, vPl⟩ := sta gυ Fυ
                refine S_X23_judge_190 Fυ pc ⟨fun w => ?_, fun _ => ⟨fun w => absurd (by rw [hps]; rfl) w, fun _ => ⟨ib_oN (by omega) (by decide), ib_oN (by omega) (by decide), ?_⟩⟩⟩
                · exfalso
                  rw [vPl, oN_le (by omega) (by omega)] at w
                  omega
                · rw [oN_t (by omega), y85 i (by omega), oN_1]
                  refine ihu (i + 1) _ (by omega) (by omega) (gυ.tr (GF.wi (by unfold jdE; omega))) Fυ (Mυ.same (wi_row (by decide)) (wi_row (by decide))) (by rw [wi_ne (by omega)]; exact y98) (fun j hj => by rw [wi_ne (by omega)]; exact y85 j hj) (fun j hj => ?_)
                  by_cases q : j = i
                  · rw [q, wi_at, if_pos (by omega)]
                  · rw [wi_ne (fun z => q z.2), y84 j hj]
                    by_cases q2 : j < i
                    · rw [if_pos q2, if_pos (by omega)]
                    · rw [if_neg q2, if_neg (by omega)]
            refine ⟨fun w => ?_, fun w => ?_⟩
            · have hps : ps = false := by
                cases q : ps with
                | false => rfl
                | true =>
                  rw [q] at w
                  exact absurd w (by decide)
              have hj1 : (jdW W wy c).1 = (bdN W wy c (rkK W (plW W.2.1 c) r) : Int) := by rw [hjd, hps]; rfl
              exact keep hps _ 0 _ rfl (Nat.zero_le _) (gT3.tr (GF.wi (by unfold jdE; omega))) F3 (M3.same (wi_row (by decide)) (wi_row (by decide))) (by rw [wi_at, hj1]; rfl) (fun j hj => by rw [wi_ne (by omega)]; exact z85 j hj) (fun j hj => by rw [wi_ne (by omega), if_neg (by omega)]; exact z84 j hj)
            · have hps : ps = true := by
                cases q : ps with
                | true => rfl
                | false =>
                  rw [q] at w
                  exact absurd rfl w
              rw [hps] at hjd
              obtain ⟨-, -, -, -, vPl⟩ := sta gT3 F3
              have done : K (.inl none) (τ3.wi 0 98 (-1 : Int32)) := h _ F3 (gT3.tr (GF.wi (by unfold jdE; omega))) (M3.same (wi_row (by decide)) (wi_row (by decide))) (by rw [wi_at, hjd]; rfl) (fun i hi => by rw [hjd, wi_ne (by omega)]; exact z84 i hi)
              refine S_X23_judge_190 F3 pc ⟨fun _ => done, fun _ => ⟨fun _ => done, fun y => ?_⟩⟩
              rw [hps] at y
              exact absurd y (by decide)
          · rw [show (0 : Int32) = Int32.ofNat 0 from rfl, oN_eq (by omega) (by omega)] at z
            rw [if_pos z] at hjd
            exact next ps sm' τ3 hsm' (by rw [hsm']; exact hjd) gT3 F3 M3 Mk3 z98 z84
        have p129 : ∀ sm' : Nat, sm' = (if 0 < meR W c r then sm + 1 else sm) → B_X23_judge_129 Z (d + 1) τ2 (Int32.ofNat c) (2409 + 3 * c) (if ps = true then 1 else 0) (Int32.ofNat ((mkW W.1).length ^ plW W.2.1 c)) (Int32.ofNat sm') (Int32.ofNat r) K := by
          intro sm' hsm'
          have hsml : sm' ≤ sm + 1 := by
            rw [hsm']
            split <;> omega
          refine S_X23_judge_129 F2 pc ⟨fun z => ?_, fun z => ⟨fun w => ?_, fun w => ⟨fun y => ?_, fun y => ?_⟩⟩⟩
          · rw [e108, show (8 : Int32) = Int32.ofNat 8 from rfl, oN_lt (by omega) (by omega)] at z
            rw [if_pos (Or.inl z)] at hjd
            exact next true sm' τ2 hsm' (by rw [hsm']; exact hjd) gT F2 M2 Mk2 f98 f84
          · rw [e108, show (8 : Int32) = Int32.ofNat 8 from rfl, oN_lt (by omega) (by omega)] at z
            rw [e108, show (0 : Int32) = Int32.ofNat 0 from rfl, oN_le (by omega) (by omega)] at w
            exact p158 (by omega) sm' hsm'
          · rw [e108, show (8 : Int32) = Int32.ofNat 8 from rfl, oN_lt (by omega) (by omega)] at z
            rw [e108, show (0 : Int32) = Int32.ofNat 0 from rfl, oN_le (by omega) (by omega)] at w
            rw [show (200 : Int32) = Int32.ofNat 200 from rfl, oN_le (by omega) (by omega), hsm', if_pos (by omega)] at y
            exact p158 (by omega) sm' hsm'
          · rw [e108, show (0 : Int32) = Int32.ofNat 0 from rfl, oN_le (by omega) (by omega)] at w
            rw [show (200 : Int32) = Int32.ofNat 200 from rfl, oN_le (by omega) (by omega), hsm', if_pos (by omega)] at y
            rw [if_pos (Or.inr ⟨by omega, by omega⟩)] at hjd
            exact next true sm' τ2 hsm' (by rw [hsm']; exact hjd) gT F2 M2 Mk2 f98 f84
        refine ⟨fun z => ?_, fun z => ?_⟩
        · rw [e108, show (0 : Int32) = Int32.ofNat 0 from rfl, oN_le (by omega) (by omega)] at z
          exact p129 sm (by rw [if_neg (by omega)])
        · rw [e108, show (0 : Int32) = Int32.ofNat 0 from rfl, oN_le (by omega) (by omega)] at z
          rw [oN_1]
          exact p129 (sm + 1) (by rw [if_pos (by omega)])
  -- the beginning
  have clr : ∀ u i τ, 3 - i = u → i ≤ 3 → GF jdE σ τ → FX ΦR τ.sh τ.r → τ.i 2069 = σ.i 2069 → τ.i 2070 = σ.i 2070 → τ.i 0 98 = 0 → (∀ j, j < i → τ.i 2184 j = -1) → B_X23_judge_17 Z (d + 1) τ (Int32.ofNat c) (2409 + 3 * c) 0 (Int32.ofNat i) K := by
    intro u
    induction u with
    | zero =>
      intro i τ hu hi g F x1 x2 e98 e84
      have e : i = 3 := by omega
      subst e
      refine S_X23_judge_17 F pc ⟨fun _ => ?_, fun z => absurd (by decide) z⟩
      have gw : GF jdE σ (τ.wi 0 106 (-1 : Int32)) := g.tr (GF.wi (by unfold jdE; omega))
      obtain ⟨Hw, w41, -⟩ := sta gw F
      obtain ⟨d, rfl⟩ : ∃ e, d = e + 1 := ⟨d - 1, by omega⟩
      refine rf_cells0 (d := d) F Hw.2.1 hc w41 ?_
      exact rows _ 0 false 0 _ rfl (Nat.zero_le _) (Nat.le_refl _) rfl gw F ((M.same x1 x2).same (wi_row (by decide)) (wi_row (by decide))) (Or.inl (wi_at _ _ _ _)) (by rw [wi_ne (by omega)]; exact e98) (fun i hi => by rw [wi_ne (by omega)]; exact e84 i hi)
    | succ u ih =>
      intro i τ hu hi g F x1 x2 e98 e84
      refine S_X23_judge_17 F pc ⟨fun z => ?_, fun _ => ⟨ib_oN (by omega) (by decide), ?_⟩⟩
      · exfalso
        rw [show (3 : Int32) = Int32.ofNat 3 from rfl, oN_le (by omega) (by omega)] at z
        omega
      · rw [oN_t (by omega), oN_1]
        refine ih (i + 1) _ (by omega) (by omega) (g.tr (GF.wi (by unfold jdE; omega))) F (by rw [wi_row (by decide)]; exact x1) (by rw [wi_row (by decide)]; exact x2) (by rw [wi_ne (by omega)]; exact e98) (fun j hj => ?_)
        by_cases q : j = i
        · rw [q, wi_at]
        · rw [wi_ne (fun z => q z.2)]
          exact e84 j (by omega)
  refine S_X23_judge_0 H.1 ⟨ibc, ?_⟩
  rw [oN_t (by omega)]
  exact clr 3 0 _ rfl (by omega) (GF.wi (by unfold jdE; omega)) H.1 (wi_row (by decide)) (wi_row (by decide)) (wi_at _ _ _ _) (fun j hj => by omega)
end JUDGE3

/-! THE REFERENCE: choose() -/
/-- a value: kind and number in a long -/
def vlX (k n : Int32) : Int64 := (((Int32.toInt64 k)) <<< (Int32.toInt64 (32 : Int32) &&& 63)) ||| (((Int32.toInt64 n)) &&& (4294967295 : Int64))
theorem rf_value {Z : zT} {d : Nat} {σ : Sg} {k n : Int32} {K : kS} (F : FX ΦR σ.sh σ.r) (h : K (.inl (some (.long (vlX k n)))) σ) : B_X23_value_0 Z (d + 1) σ k n K := S_X23_value_0 F h
theorem fx_at {σ : Sg} (F : FX ΦR σ.sh σ.r) : aT σ 2132 "DispatchHouseModel$Failed" ∧ aT σ 2133 "DispatchHouseModel$Ended" := by
  have h1 : ∃ ci q, sh0R[2132]? = some (Sh.obj ci) ∧ vwCl[ci]? = some q ∧ q.1 = "DispatchHouseModel$Failed" := by
    have e : sh0R[2132]? = some (Sh.obj 17) ∧ ∃ q, vwCl[17]? = some q ∧ q.1 = "DispatchHouseModel$Failed" := ⟨by decide +kernel, _, rfl, rfl⟩
    obtain ⟨a, q, b, c⟩ := e
    exact ⟨_, q, a, b, c⟩
  have h2 : ∃ ci q, sh0R[2133]? = some (Sh.obj ci) ∧ vwCl[ci]? = some q ∧ q.1 = "DispatchHouseModel$Ended" := by
    have e : sh0R[2133]? = some (Sh.obj 16) ∧ ∃ q, vwCl[16]? = some q ∧ q.1 = "DispatchHouseModel$Ended" := ⟨by decide +kernel, _, rfl, rfl⟩
    obtain ⟨a, q, b, c⟩ := e
    exact ⟨_, q, a, b, c⟩
  obtain ⟨c1, q1, a1, b1, d1⟩ := h1
  obtain ⟨c2, q2, a2, b2, d2⟩ := h2
  exact ⟨⟨c1, q1, F.s a1, b1, d1⟩, ⟨c2, q2, F.s a2, b2, d2⟩⟩
/-- fault() and its throw -/
theorem rf_fault {Z : zT} {d : Nat} {σ : Sg} {n : Int32} {K : kS} (F : FX ΦR σ.sh σ.r) (h : K (.inr ("DispatchHouseModel$Failed", 2132)) (σ.wl 0 78 (vlX 2 n))) : B_X23_fault_0 Z (d + 2) σ n (yR K fun v τ => ∃ x, aT τ v x ∧ K (.inr (x, v)) τ) := by
  refine S_X23_fault_0 F (rf_value F ?_)
  exact ⟨_, (fx_at (σ := σ.wl 0 78 (vlX 2 n)) F).1, h⟩
theorem rf_ends {Z : zT} {d : Nat} {σ : Sg} {n : Int32} {K : kS} (F : FX ΦR σ.sh σ.r) (h : K (.inr ("DispatchHouseModel$Ended", 2133)) (σ.wi 0 79 n)) : B_X23_ends_0 Z (d + 1) σ n (yR K fun v τ => ∃ x, aT τ v x ∧ K (.inr (x, v)) τ) := by
  refine S_X23_ends_0 F ?_
  exact ⟨_, (fx_at (σ := σ.wi 0 79 n) F).2, h⟩
/-! choose() -/
def mnB (ms : List (Mtd × Bool)) (c m : Nat) : Bool := decide (gnW ms m = 0) && decide (mcW ms m = c)
/-- the methods that apply, so far -/
def apL (W : Wld) (on : List Nat) (c : Nat) (k : Nat → Nat) (v : Nat → Int) (n : Nat) : List Nat := ((List.range n).map (· + 1)).filter fun m => mnB W.2.2.2 c m && ftB W m k && apB W on k v m
theorem apL_s (W : Wld) (on : List Nat) (c : Nat) (k : Nat → Nat) (v : Nat → Int) (n : Nat) : apL W on c k v (n + 1) = apL W on c k v n ++ if (mnB W.2.2.2 c (n + 1) && ftB W (n + 1) k && apB W on k v (n + 1)) = true then [n + 1] else [] := by
  unfold apL
  rw [List.range_succ, List.map_append, List.filter_append]
  congr 1
  show List.filter _ [n + 1] = _
  rw [List.filter_cons]
  split <;> rfl
theorem apL_mem {W : Wld} {on : List Nat} {c : Nat} {k : Nat → Nat} {v : Nat → Int} {n : Nat} : ∀ x ∈ apL W on c k v n, (1 ≤ x ∧ x ≤ n) ∧ mcW W.2.2.2 x = c := by
  intro x hx
  obtain ⟨h1, h2⟩ := List.mem_filter.mp hx
  obtain ⟨y, hy, e⟩ := List.mem_map.mp h1
  have := List.mem_range.mp hy
  rw [Bool.and_eq_true, Bool.and_eq_true] at h2
  have h3 := h2.1.1
  unfold mnB at h3
  rw [Bool.and_eq_true] at h3
  exact ⟨by omega, of_decide_eq_true h3.2⟩
theorem apL_len {W : Wld} {on : List Nat} {c : Nat} {k : Nat → Nat} {v : Nat → Int} {n : Nat} : (apL W on c k v n).length ≤ n := by
  unfold apL
  have := List.length_filter_le (fun m => mnB W.2.2.2 c m && ftB W m k && apB W on k v m) ((List.range n).map (· + 1))
  rw [List.length_map, List.length_range] at this
  exact this
def jnW (cs : List Cal) (c : Nat) : Nat := ((cs[c]?).map (·.2.2.1)).getD 0
/-- the row of a role -/
noncomputable def rowW (W : Wld) (wy : Nat) (on : List Nat) (c : Nat) (k : Nat → Nat) (ap : List Nat) (role : Nat) : List Nat × Bool := rwG (fun x y => nrI W wy x y k) (decide (role = 1) || (decide (role = 0) && decide (jnW W.2.1 c = 0))) ((lyS on).map (gpL W.2.2.2 ap role))
/-- what choosing at X may write -/
def coE (X : Nat) (a k : Nat) : Prop := (a = 0 ∧ 73 ≤ k ∧ k ≤ 75) ∨ a = 2130 ∨ a = 2131 ∨ (X ≤ a ∧ a < X + 8)
/-- the choice at X -/
def CcS (σ : Sg) (X c : Nat) (R : Nat → List Nat × Bool) : Prop := σ.i X 0 = Int32.ofNat c ∧ ∀ role, role < 4 → RwS σ X role (R role).1 (R role).2
section CHOOSE
variable {Z : zT} {d : Nat} {W : Wld} {lst : List Nat} {b wy : Nat} {σ : Sg} {K : kS} {c X : Nat} {k : Nat → Nat} {v : Nat → Int} {on : List Nat}
theorem RwS.gf {E : Nat → Nat → Prop} {τ : Sg} {role : Nat} {R : List Nat} {sv : Bool} (h : RwS σ X role R sv) (g : GF E σ τ) (hX : 2981 ≤ X) (h1 : ¬ E (X + 6) role) (h2 : ∀ j, ¬ E (X + 1 + 1 + role) j) (h3 : ¬ E (X + 7) role) : RwS τ X role R sv := by
  refine ⟨(g.2.2.1 _ _ h1 (by omega) (by omega) (by omega)).trans h.1, fun i y hy => (g.2.2.1 _ _ (h2 i) (by omega) (by omega) (by omega)).trans (h.2.1 i y hy), (g.2.2.1 _ _ h3 (by omega) (by omega) (by omega)).trans h.2.2⟩
theorem rf_choose (hW : WfW W) (hd : 260 ≤ d) (H : NwS W lst b wy σ) (M : MmR W wy σ) (hMn : MnS σ W.2.1.length (mcW W.2.2.2) (gnW W.2.2.2) (W.2.2.2.length + 1)) (hc : c < W.2.1.length) (hX : ∃ i, i < 48 ∧ X = 2981 + 8 * i) (hk : KnS 2182 k W.1.length (plW W.2.1 c) σ) (hv : ArS 2182 2183 k v W.1.length (plW W.2.1 c) σ) (hl : σ.l 0 68 = Int64.ofNat (enL on)) (hon : ∀ x ∈ on, x < 8) (h8 : on.length ≤ 8) (hnd : on.Nodup)
    (h1 : ((apL W on c k v W.2.2.2.length).any fun m => decide (rlM W.2.2.2 m = 0)) = true → ∀ τ, FX ΦR τ.sh τ.r → GF (coE X) σ τ → MmR W wy τ → CcS τ X c (rowW W wy on c k (apL W on c k v W.2.2.2.length)) → K (.inl none) τ)
    (h0 : ((apL W on c k v W.2.2.2.length).any fun m => decide (rlM W.2.2.2 m = 0)) = false → ∀ τ, FX ΦR τ.sh τ.r → GF (coE X) σ τ → MmR W wy τ → K (.inr ("DispatchHouseModel$Failed", 2132)) (τ.wl 0 78 (vlX 2 1))) : B_X23_choose_0 Z d σ X (Int32.ofNat c) K := by
  obtain ⟨d, rfl⟩ : ∃ e, d = e + 3 := ⟨d - 3, by omega⟩
  have hX' := hX
  obtain ⟨xi, xi1, rfl⟩ := hX
  have pX : sh0R[2981 + 8 * xi]? = some (Sh.obj 15) := by
    have : ∀ j : Fin 48, sh0R[2981 + 8 * j.val]? = some (Sh.obj 15) := by decide +kernel
    exact this ⟨xi, xi1⟩
  have hE : ∀ a j, coE (2981 + 8 * xi) a j → chE a j := fun a j q => by
    unfold coE at q
    unfold chE
    omega
  have h120 := H.2.2.1.2
  have hc24 := H.2.1.2.1.2.1
  have sta : ∀ {τ : Sg}, GF (coE (2981 + 8 * xi)) σ τ → FX ΦR τ.sh τ.r → NwS W lst b wy τ ∧ KnS 2182 k W.1.length (plW W.2.1 c) τ ∧ ArS 2182 2183 k v W.1.length (plW W.2.1 c) τ ∧ τ.l 0 68 = Int64.ofNat (enL on) ∧ ∀ m, 1 ≤ m → m ≤ 120 → (st2 τ (1905 + 1 + c) m = true ↔ m < W.2.2.2.length + 1 ∧ gnW W.2.2.2 m = 0 ∧ mcW W.2.2.2 m = c) := fun {τ} g F => by
    refine ⟨H.gf g hE F, hk.gf g hE (by omega), ⟨by rw [g.1]; exact hv.1, fun i hi => ?_⟩, by rw [g.2.2.2 0 (by decide)]; exact hl, fun m m1 m2 => ?_⟩
    · rw [g.row (a := 2182) (fun j z => by unfold coE at z; omega) (by decide) (by decide) (by decide), g.row (a := 2183) (fun j z => by unfold coE at z; omega) (by decide) (by decide) (by decide)]
      exact hv.2 i hi
    · unfold st2
      rw [g.2.2.2 (1905 + 1 + c) (by omega)]
      exact hMn c m hc m1 (by omega)
  obtain ⟨σ1, hσ1⟩ : ∃ x, x = (σ.wi (2981 + 8 * xi) 0 (Int32.ofNat c)).wi 0 73 (0 : Int32) := ⟨_, rfl⟩
  have g1 : GF (coE (2981 + 8 * xi)) σ σ1 := by
    rw [hσ1]
    exact (GF.wi (by unfold coE; omega)).tr (GF.wi (by unfold coE; omega))
  have F1 : FX ΦR σ1.sh σ1.r := by rw [hσ1]; exact H.1
  have M1 : MmR W wy σ1 := M.same (by rw [hσ1, wi_row (by decide), wi_row (by omega)]) (by rw [hσ1, wi_row (by decide), wi_row (by omega)])
  -- the rows
  have rows : ((apL W on c k v W.2.2.2.length).any fun m => decide (rlM W.2.2.2 m = 0)) = true → ∀ r j τ, 4 - j = r → j ≤ 4 → GF (coE (2981 + 8 * xi)) σ τ → FX ΦR τ.sh τ.r → MmR W wy τ → τ.i (2981 + 8 * xi) 0 = Int32.ofNat c → ApS τ (apL W on c k v W.2.2.2.length) → (∀ role, role < j → RwS τ (2981 + 8 * xi) role (rowW W wy on c k (apL W on c k v W.2.2.2.length) role).1 (rowW W wy on c k (apL W on c k v W.2.2.2.length) role).2) → B_X23_choose_139 Z (d + 3) τ (2981 + 8 * xi) (Int32.ofNat j) K := by
    intro hany r
    induction r with
    | zero =>
      intro j τ hr hj g F Mτ e0 A Rr
      have e : j = 4 := by omega
      subst e
      exact S_X23_choose_139 F pX ⟨fun _ => h1 hany τ F g Mτ ⟨e0, Rr⟩, fun z => absurd (by decide) z⟩
    | succ r ih =>
      intro j τ hr hj g F Mτ e0 A Rr
      obtain ⟨Hτ, kτ, -, lτ, -⟩ := sta g F
      refine S_X23_choose_139 F pX ⟨fun z => ?_, fun _ => ?_⟩
      · exfalso
        rw [show (3 : Int32) = Int32.ofNat 3 from rfl, oN_lt (by omega) (by omega)] at z
        omega
      · refine rf_chooseRow hW (by omega) Hτ Mτ A apL_mem hc hX' e0 (by omega) (by omega) kτ lτ hon h8 hnd (fun υ Fυ gυ Mυ Rυ => ?_)
        show B_X23_choose_139 Z (d + 3) υ (2981 + 8 * xi) (Int32.ofNat j + 1) K
        rw [oN_1]
        have gυ' : GF (coE (2981 + 8 * xi)) τ υ := gυ.le (fun a i q => by unfold rwE at q; unfold coE; omega)
        refine ih (j + 1) υ (by omega) (by omega) (g.tr gυ') Fυ Mυ ?_ ⟨?_, A.2.1, fun i x hx => ?_⟩ (fun role hro => ?_)
        · rw [gυ.2.2.1 _ 0 (by unfold rwE; omega) (by omega) (by omega) (by omega)]
          exact e0
        · rw [gυ.2.2.1 0 73 (by unfold rwE; omega) (by decide) (by decide) (by decide)]
          exact A.1
        · rw [gυ.row (fun j z => by unfold rwE at z; omega) (by decide) (by decide) (by decide)]
          exact A.2.2 i x hx
        · by_cases q : role = j
          · subst q
            exact Rυ
          · exact (Rr role (by omega)).gf gυ (by omega) (by unfold rwE; omega) (fun j z => by unfold rwE at z; omega) (by unfold rwE; omega)
  -- who applies
  have loop : ∀ r m τ, W.2.2.2.length - m = r → m ≤ W.2.2.2.length → GF (coE (2981 + 8 * xi)) σ τ → FX ΦR τ.sh τ.r → MmR W wy τ → τ.i (2981 + 8 * xi) 0 = Int32.ofNat c → ApS τ (apL W on c k v m) → B_X23_choose_15 Z (d + 3) τ (2981 + 8 * xi) (Int32.ofNat c) (if ((apL W on c k v m).any fun m => decide (rlM W.2.2.2 m = 0)) = true then 1 else 0) (Int32.ofNat (m + 1)) K := by
    intro r
    induction r with
    | zero =>
      intro m τ hr hm g F Mτ e0 A
      have e : m = W.2.2.2.length := by omega
      subst e
      obtain ⟨Hτ, -⟩ := sta g F
      refine S_X23_choose_15 F pX ⟨fun _ => ⟨fun z => ?_, fun z => ?_⟩, fun z => absurd (by rw [Hτ.2.2.1.1, oN_lt (by omega) (by omega)]; omega) z⟩
      · have hany : ((apL W on c k v W.2.2.2.length).any fun m => decide (rlM W.2.2.2 m = 0)) = true := by
          cases q : ((apL W on c k v W.2.2.2.length).any fun m => decide (rlM W.2.2.2 m = 0)) with
          | true => rfl
          | false =>
            rw [q] at z
            exact absurd rfl z
        exact rows hany 4 0 τ rfl (by omega) g F Mτ e0 A (fun role hro => by omega)
      · have hany : ((apL W on c k v W.2.2.2.length).any fun m => decide (rlM W.2.2.2 m = 0)) = false := by
          cases q : ((apL W on c k v W.2.2.2.length).any fun m => decide (rlM W.2.2.2 m = 0)) with
          | false => rfl
          | true =>
            rw [q] at z
            exact absurd z (by decide)
        exact rf_fault F (h0 hany τ F g Mτ)
    | succ r ih =>
      intro m τ hr hm g F Mτ e0 A
      obtain ⟨Hτ, kτ, vτ, lτ, sτ⟩ := sta g F
      have hm1 : 1 ≤ m + 1 ∧ m + 1 ≤ W.2.2.2.length := by omega
      have es := apL_s W on c k v m
      have hlen := apL_len (W := W) (on := on) (c := c) (k := k) (v := v) (n := m)
      have skip : ∀ υ, υ = τ → (mnB W.2.2.2 c (m + 1) && ftB W (m + 1) k && apB W on k v (m + 1)) = false → B_X23_choose_15 Z (d + 3) υ (2981 + 8 * xi) (Int32.ofNat c) (if ((apL W on c k v m).any fun m => decide (rlM W.2.2.2 m = 0)) = true then 1 else 0) (Int32.ofNat (m + 1) + 1) K := by
        rintro υ rfl hf
        rw [hf] at es
        have es : apL W on c k v (m + 1) = apL W on c k v m := es.trans (List.append_nil _)
        have := ih (m + 1) υ (by omega) (by omega) g F Mτ e0 (by rw [es]; exact A)
        rw [es] at this
        rw [oN_1]
        exact this
      refine S_X23_choose_15 F pX ⟨fun z => ?_, fun _ => ⟨ib_oN (by omega) (by decide), ?_⟩⟩
      · exfalso
        rw [Hτ.2.2.1.1, oN_lt (by omega) (by omega)] at z
        omega
      · rw [oN_t (by omega)]
        have psh : τ.sh[1905 + 1 + c]? = some (Sh.arr 1 2) := by
          have : ∀ j : Fin 24, sh0R[1905 + 1 + j.val]? = some (Sh.arr 1 2) := by decide +kernel
          exact F.s (this ⟨c, by omega⟩)
        refine rf_has (d := d + 1) F psh (by omega) ?_
        have hmn : st2 τ (1905 + 1 + c) (m + 1) = mnB W.2.2.2 c (m + 1) := by
          rw [Bool.eq_iff_iff, sτ (m + 1) (by omega) (by omega)]
          unfold mnB
          rw [Bool.and_eq_true, decide_eq_true_eq, decide_eq_true_eq]
          constructor
          · exact fun q => q.2
          · exact fun q => ⟨by omega, q⟩
        rw [hmn]
        by_cases qm : mnB W.2.2.2 c (m + 1) = true
        · rw [if_pos qm]
          refine ⟨fun z => absurd z (by decide), fun _ => ?_⟩
          have hmc : mcW W.2.2.2 (m + 1) = c := by
            unfold mnB at qm
            rw [Bool.and_eq_true] at qm
            exact of_decide_eq_true qm.2
          refine rf_fits (d := d + 1) hW Hτ hm1 kτ.1.1 (k := k) (by rw [hmc]; exact kτ.2.1) ?_
          by_cases qf : ftB W (m + 1) k = true
          · rw [if_pos qf]
            refine ⟨fun z => absurd z (by decide), fun _ => ⟨ib_oN (by omega) (by decide), ?_⟩⟩
            rw [oN_t (by omega)]
            refine rf_applies (d := d + 2) hW (by omega) Hτ hm1 (by rw [hmc]; exact vτ) lτ hon h8 ?_
            by_cases qa : apB W on k v (m + 1) = true
            · rw [if_pos qa]
              rw [qm, qf, qa] at es
              have es : apL W on c k v (m + 1) = apL W on c k v m ++ [m + 1] := es
              refine ⟨fun _ => ⟨by rw [A.1]; exact ib_oN (by omega) (by decide), ?_⟩, fun z => absurd z (by decide)⟩
              rw [A.1, oN_t (by omega), oN_1 (apL W on c k v m).length, oN_1 (m + 1)]
              obtain ⟨ψ, hψ⟩ : ∃ x, x = (τ.wi 2130 (apL W on c k v m).length (Int32.ofNat (m + 1))).wi 0 73 (Int32.ofNat ((apL W on c k v m).length + 1)) := ⟨_, rfl⟩
              rw [← hψ]
              have gψ : GF (coE (2981 + 8 * xi)) σ ψ := by
                rw [hψ]
                exact g.tr ((GF.wi (by unfold coE; omega)).tr (GF.wi (by unfold coE; omega)))
              have Fψ : FX ΦR ψ.sh ψ.r := by rw [hψ]; exact F
              have Aψ : ApS ψ (apL W on c k v (m + 1)) := by
                rw [es]
                refine ⟨?_, ?_, fun i x hx => ?_⟩
                · rw [hψ, wi_at, List.length_append]
                  rfl
                · rw [List.length_append]
                  show _ + 1 ≤ 120
                  omega
                · rw [hψ, wi_ne (by omega)]
                  by_cases q : i = (apL W on c k v m).length
                  · subst q
                    rw [List.getElem?_append_right (Nat.le_refl _), Nat.sub_self] at hx
                    cases hx
                    exact wi_at _ _ _ _
                  · have hi : i < (apL W on c k v m).length := by
                      have := (List.getElem?_eq_some_iff.mp hx).1
                      rw [List.length_append] at this
                      have : i < (apL W on c k v m).length + 1 := this
                      omega
                    rw [List.getElem?_append_left hi] at hx
                    rw [wi_ne (by omega)]
                    exact A.2.2 i x hx
              have Mψ : MmR W wy ψ := Mτ.same (by rw [hψ, wi_row (by decide), wi_row (by decide)]) (by rw [hψ, wi_row (by decide), wi_row (by decide)])
              have e0ψ : ψ.i (2981 + 8 * xi) 0 = Int32.ofNat c := by
                rw [hψ, wi_ne (by omega), wi_ne (by omega)]
                exact e0
              have nx := ih (m + 1) ψ (by omega) (by omega) gψ Fψ Mψ e0ψ Aψ
              rw [es, List.any_append] at nx
              have e1 : ([m + 1].any fun m => decide (rlM W.2.2.2 m = 0)) = decide (rlM W.2.2.2 (m + 1) = 0) := by simp
              rw [e1] at nx
              have r1 : ψ.i (2497 + 4 * (m + 1)) 1 = Int32.ofNat (rlM W.2.2.2 (m + 1)) := by
                rw [hψ, wi_ne (by omega), wi_ne (by omega)]
                exact (Hτ.mt2 hW hm1.1 hm1.2).2.1
              have r2 := (Hτ.mt2 hW hm1.1 hm1.2).2.2
              rw [r1]
              cases qy : ((apL W on c k v m).any fun m => decide (rlM W.2.2.2 m = 0)) with
              | true =>
                rw [qy, Bool.true_or] at nx
                exact ⟨fun _ => nx, fun z => absurd z (by decide)⟩
              | false =>
                rw [qy, Bool.false_or] at nx
                refine ⟨fun z => absurd rfl z, fun _ => ⟨ib_oN (by omega) (by decide), fun z => ?_, fun z => ?_⟩⟩
                · have : rlM W.2.2.2 (m + 1) ≠ 0 := fun q => z (by rw [q]; rfl)
                  rw [decide_eq_false this] at nx
                  exact nx
                · rw [show (0 : Int32) = Int32.ofNat 0 from rfl, oN_eq (by omega) (by omega)] at z
                  rw [decide_eq_true z] at nx
                  exact nx
            · rw [if_neg qa]
              refine ⟨fun z => absurd rfl z, fun _ => skip τ rfl ?_⟩
              rw [Bool.eq_false_iff.mpr qa, Bool.and_false]
          · rw [if_neg qf]
            refine ⟨fun _ => skip τ rfl ?_, fun z => absurd rfl z⟩
            rw [Bool.eq_false_iff.mpr qf, Bool.and_false, Bool.false_and]
        · rw [if_neg qm]
          refine ⟨fun _ => skip τ rfl ?_, fun z => absurd rfl z⟩
          rw [Bool.eq_false_iff.mpr qm, Bool.false_and, Bool.false_and]
  refine S_X23_choose_0 H.1 ⟨pX, ?_⟩
  rw [← hσ1]
  have := loop W.2.2.2.length 0 σ1 (by omega) (Nat.zero_le _) g1 F1 M1 (by rw [hσ1, wi_ne (by omega), wi_at]) ⟨by rw [hσ1, wi_at]; rfl, by show 0 ≤ 120; omega, fun i x hx => by cases hx⟩
  exact this
end CHOOSE

/-! THE REFERENCE: chooseRow() -/
/-- a row of the choice at X -/
def RwS (σ : Sg) (X role : Nat) (R : List Nat) (sv : Bool) : Prop := σ.i (X + 6) role = Int32.ofNat R.length ∧ (∀ (i y : Nat), R[i]? = some y → σ.i (X + 1 + 1 + role) i = Int32.ofNat y) ∧ σ.i (X + 7) role = if sv = true then 1 else 0
/-- the methods that apply -/
def ApS (σ : Sg) (ap : List Nat) : Prop := σ.i 0 73 = Int32.ofNat ap.length ∧ ap.length ≤ 120 ∧ ∀ (i x : Nat), ap[i]? = some x → σ.i 2130 i = Int32.ofNat x
/-- what a row's choosing may write -/
def rwE (X role : Nat) (a k : Nat) : Prop := (a = 0 ∧ (k = 74 ∨ k = 75)) ∨ a = 2131 ∨ a = X + 1 + 1 + role ∨ ((a = X + 6 ∨ a = X + 7) ∧ k = role)
theorem lyG_some {nr : Nat → Nat → Int} {st : Bool} {f : Nat} {L : List Nat} (hne : L ≠ []) {i : Nat} (h : pkO nr st L = some i) : lyG nr st (f + 1) L = (L.getD i 0 :: (lyG nr st f (L.eraseIdx i)).1, (lyG nr st f (L.eraseIdx i)).2) := by
  rw [lyG, if_neg hne, h]
theorem lyG_none {nr : Nat → Nat → Int} {st : Bool} {f : Nat} {L : List Nat} (hne : L ≠ []) (h : pkO nr st L = none) : lyG nr st (f + 1) L = ([], true) := by
  rw [lyG, if_neg hne, h]
theorem er_get {L : List Nat} {p j : Nat} : (L.eraseIdx p)[j]? = if j < p then L[j]? else L[j + 1]? := by
  rw [List.getElem?_eraseIdx]
theorem gp_sum (ms : List (Mtd × Bool)) (ap : List Nat) (role : Nat) : ∀ ls : List Int, ls.Nodup → ((ls.map (gpL ms ap role)).map List.length).sum ≤ (ap.filter fun m => decide (lyM ms m ∈ ls)).length
  | [], _ => by
    show 0 ≤ _
    omega
  | l :: r, h => by
    have h1 := (List.nodup_cons.mp h).1
    have ih := gp_sum ms ap role r (List.nodup_cons.mp h).2
    rw [List.map_cons, List.map_cons, List.sum_cons]
    have key : ∀ ap : List Nat, (gpL ms ap role l).length + (ap.filter fun m => decide (lyM ms m ∈ r)).length ≤ (ap.filter fun m => decide (lyM ms m ∈ l :: r)).length := by
      intro ap
      unfold gpL
      induction ap with
      | nil => exact Nat.le_refl _
      | cons x ap ih2 =>
        rw [List.filter_cons, List.filter_cons, List.filter_cons]
        by_cases q1 : lyM ms x = l
        · have q2 : ¬ lyM ms x ∈ r := by rw [q1]; exact h1
          have q3 : lyM ms x ∈ l :: r := by rw [q1]; exact List.mem_cons_self ..
          rw [decide_eq_false q2, decide_eq_true q3, decide_eq_true q1, Bool.and_true]
          simp only [if_true]
          split
          · rw [List.length_cons, List.length_cons]
            simp only [Bool.false_eq_true, if_false]
            omega
          · rw [List.length_cons]
            simp only [Bool.false_eq_true, if_false]
            omega
        · rw [decide_eq_false q1, Bool.and_false]
          simp only [Bool.false_eq_true, if_false]
          by_cases q2 : lyM ms x ∈ r
          · rw [decide_eq_true q2, decide_eq_true (List.mem_cons_of_mem _ q2)]
            simp only [if_true]
            rw [List.length_cons, List.length_cons]
            omega
          · have q3 : ¬ lyM ms x ∈ l :: r := fun z => by
              rcases List.mem_cons.mp z with z | z
              · exact q1 z
              · exact q2 z
            rw [decide_eq_false q2, decide_eq_false q3]
            simp only [Bool.false_eq_true, if_false]
            exact ih2
    have := key ap
    omega
section CROW
variable {Z : zT} {d : Nat} {W : Wld} {lst : List Nat} {b wy : Nat} {σ : Sg} {K : kS} {kA c X role : Nat} {k : Nat → Nat} {ap on : List Nat}
/-- chooseRow() -/
theorem rf_chooseRow (hW : WfW W) (hd : 250 ≤ d) (H : NwS W lst b wy σ) (M : MmR W wy σ) (hA : ApS σ ap) (hm : ∀ x ∈ ap, (1 ≤ x ∧ x ≤ W.2.2.2.length) ∧ mcW W.2.2.2 x = c) (hc : c < W.2.1.length) (hX : ∃ i, i < 48 ∧ X = 2981 + 8 * i) (hXc : σ.i X 0 = Int32.ofNat c) (hr : role < 4) (hkA : kA ≠ 2130 ∧ kA ≠ 2131 ∧ ¬ (2981 ≤ kA ∧ kA < 3365)) (hk : KnS kA k W.1.length (plW W.2.1 c) σ) (hl : σ.l 0 68 = Int64.ofNat (enL on)) (hon : ∀ x ∈ on, x < 8) (h8 : on.length ≤ 8) (hnd : on.Nodup)
    (h : ∀ τ, FX ΦR τ.sh τ.r → GF (rwE X role) σ τ → MmR W wy τ → RwS τ X role (rwG (fun x y => nrI W wy x y k) (decide (role = 1) || (decide (role = 0) && decide (((W.2.1[c]?).map (·.2.2.1)).getD 0 = 0))) ((lyS on).map (gpL W.2.2.2 ap role))).1 (rwG (fun x y => nrI W wy x y k) (decide (role = 1) || (decide (role = 0) && decide (((W.2.1[c]?).map (·.2.2.1)).getD 0 = 0))) ((lyS on).map (gpL W.2.2.2 ap role))).2 → K (.inl none) τ) : B_X23_chooseRow_0 Z d σ X (Int32.ofNat role) kA K := by
  obtain ⟨d, rfl⟩ : ∃ e, d = e + 1 := ⟨d - 1, by omega⟩
  obtain ⟨xi, xi1, rfl⟩ := hX
  have pX : sh0R[2981 + 8 * xi]? = some (Sh.obj 15) := by
    have : ∀ j : Fin 48, sh0R[2981 + 8 * j.val]? = some (Sh.obj 15) := by decide +kernel
    exact this ⟨xi, xi1⟩
  have hE : ∀ a j, rwE (2981 + 8 * xi) role a j → chE a j := fun a j q => by
    unfold rwE at q
    unfold chE
    omega
  have hc24 := H.2.1.2.1.2.1
  have h120 := H.2.2.1.2
  have ib4 : ib (Int32.ofNat role) 4 := ib_oN hr (by decide)
  generalize hst : (decide (role = 1) || (decide (role = 0) && decide (((W.2.1[c]?).map (·.2.2.1)).getD 0 = 0))) = st at h
  generalize hnr : (fun x y => nrI W wy x y k) = nr at h
  have hb68 := enL_b hon h8
  have enb : ∀ j, enL on / 16 ^ j < 9223372036854775808 := fun j => by
    have := Nat.div_le_self (enL on) (16 ^ j)
    omega
  -- groups, from some layer on
  have main : B_X23_chooseRow_29 Z (d + 1) σ (2981 + 8 * xi) (Int32.ofNat role) kA (if st = true then 1 else 0) K := by
    refine S_X23_chooseRow_29 H.1 ⟨pX, ib4, ib4, ?_⟩
    rw [oN_t (by omega)]
    rw [show vp_nar .boolean (0 : Int32) = 0 by decide]
    obtain ⟨σ1, hσ1⟩ : ∃ x, x = (σ.wi (2981 + 8 * xi + 6) role (0 : Int32)).wi (2981 + 8 * xi + 7) role (0 : Int32) := ⟨_, rfl⟩
    rw [← hσ1]
    have g1 : GF (rwE (2981 + 8 * xi) role) σ σ1 := by
      rw [hσ1]
      exact (GF.wi (by unfold rwE; omega)).tr (GF.wi (by unfold rwE; omega))
    have F1 : FX ΦR σ1.sh σ1.r := by rw [hσ1]; exact H.1
    have M1 : MmR W wy σ1 := M.same (by rw [hσ1, wi_row (by omega), wi_row (by omega)]) (by rw [hσ1, wi_row (by omega), wi_row (by omega)])
    have R1 : RwS σ1 (2981 + 8 * xi) role [] false := by
      refine ⟨?_, fun i y hy => (by cases hy), ?_⟩
      · rw [hσ1, wi_ne (by omega), wi_at]
        rfl
      · rw [hσ1, wi_at]
        rfl
    -- the facts at any state on the way
    have sta : ∀ {τ : Sg}, GF (rwE (2981 + 8 * xi) role) σ τ → FX ΦR τ.sh τ.r → NwS W lst b wy τ ∧ ApS τ ap ∧ KnS kA k W.1.length (plW W.2.1 c) τ ∧ τ.l 0 68 = Int64.ofNat (enL on) := fun {τ} g F => by
      refine ⟨H.gf g hE F, ⟨(g.2.2.1 0 73 (by unfold rwE; omega) (by decide) (by decide) (by decide)).trans hA.1, hA.2.1, fun i x hx => ?_⟩, hk.gf g hE hkA, ?_⟩
      · rw [g.row (fun j z => by unfold rwE at z; omega) (by decide) (by decide) (by decide)]
        exact hA.2.2 i x hx
      · rw [g.2.2.2 0 (by decide)]
        exact hl
    -- one group laid, then the rest of the groups
    have lay : ∀ (g6 : Int32) (rest : List (List Nat)), (∀ τ R, GF (rwE (2981 + 8 * xi) role) σ τ → FX ΦR τ.sh τ.r → MmR W wy τ → RwS τ (2981 + 8 * xi) role R false → R.length + (rest.map List.length).sum ≤ 120 → (∀ υ, FX ΦR υ.sh υ.r → GF (rwE (2981 + 8 * xi) role) σ υ → MmR W wy υ → RwS υ (2981 + 8 * xi) role (R ++ (rwG nr st rest).1) (rwG nr st rest).2 → K (.inl none) υ) → B_X23_chooseRow_74 Z (d + 1) τ (2981 + 8 * xi) (Int32.ofNat role) kA (if st = true then 1 else 0) (g6 + (-1)) K) →
        ∀ f (L R : List Nat) τ, L.length = f → (∀ x ∈ L, x ∈ ap) → GF (rwE (2981 + 8 * xi) role) σ τ → FX ΦR τ.sh τ.r → MmR W wy τ → LfS τ L → RwS τ (2981 + 8 * xi) role R false → R.length + L.length + (rest.map List.length).sum ≤ 120 →
        (∀ υ, FX ΦR υ.sh υ.r → GF (rwE (2981 + 8 * xi) role) σ υ → MmR W wy υ → RwS υ (2981 + 8 * xi) role (R ++ (if (lyG nr st f L).2 = true then (lyG nr st f L).1 else (lyG nr st f L).1 ++ (rwG nr st rest).1)) (if (lyG nr st f L).2 = true then true else (rwG nr st rest).2) → K (.inl none) υ) → B_X23_chooseRow_190 Z (d + 1) τ (2981 + 8 * xi) (Int32.ofNat role) kA (if st = true then 1 else 0) g6 K := by
      intro g6 rest hrest f
      induction f with
      | zero =>
        intro L R τ hf hLa g F Mτ hL hR hn hK
        have e : L = [] := List.eq_nil_of_length_eq_zero hf
        subst e
        have hL1 : τ.i 0 74 = Int32.ofNat 0 := hL.1
        refine S_X23_chooseRow_190 F pX ⟨fun _ => ?_, fun z => absurd (by rw [hL1]; decide) z⟩
        refine hrest τ R g F Mτ hR (by omega) (fun υ F2 g2 M2 R2 => hK υ F2 g2 M2 ?_)
        exact R2
      | succ f ih =>
        intro L R τ hf hLa g F Mτ hL hR hn hK
        have hne : L ≠ [] := fun z => by rw [z] at hf; cases hf
        obtain ⟨Hτ, Aτ, kτ, lτ⟩ := sta g F
        refine S_X23_chooseRow_190 F pX ⟨fun z => ?_, fun _ => ?_⟩
        · exfalso
          rw [hL.1, show (0 : Int32) = Int32.ofNat 0 from rfl, oN_le (by omega) (by omega)] at z
          omega
        · refine rf_firstOf hW (by omega) Hτ Mτ hL (fun x hx => hm x (hLa x hx)) hkA kτ (fun υ Fυ gυ Mυ e75 => ?_)
          rw [hnr] at e75 ⊢
          have fr := foI_r (frI nr L) L.length frI_lt
          have lr := leI_r (frI nr L) L.length frI_lt
          have gυ' : GF (rwE (2981 + 8 * xi) role) τ υ := gυ.le (fun a j q => by unfold rwE; omega)
          have g2 := g.tr gυ'
          have hLυ : LfS υ L := hL.gf gυ (fun a j q => by unfold chE; omega) (fun j z => by omega) (by omega)
          have hRυ : RwS υ (2981 + 8 * xi) role R false := by
            refine ⟨?_, fun i y hy => ?_, ?_⟩
            · rw [gυ.row (fun j z => by omega) (by omega) (by omega) (by omega)]
              exact hR.1
            · rw [gυ.row (fun j z => by omega) (by omega) (by omega) (by omega)]
              exact hR.2.1 i y hy
            · rw [gυ.row (fun j z => by omega) (by omega) (by omega) (by omega)]
              exact hR.2.2
          -- the p-th is next
          have take : ∀ p, p < L.length → pkO nr st L = some p → B_X23_chooseRow_237 Z (d + 1) υ (2981 + 8 * xi) (Int32.ofNat role) kA (if st = true then 1 else 0) g6 (Int32.ofNat p) K := by
            intro p hp hpk
            have elay := lyG_some (f := f) hne hpk
            have hLp : L[p]? = some (L.getD p 0) := by
              rw [List.getD_eq_getElem?_getD, List.getElem?_eq_getElem hp]
              rfl
            have ibn : ib (υ.i (2981 + 8 * xi + 6) (Int32.ofNat role).toNatClampNeg) 120 := by
              rw [oN_t (by omega), hRυ.1]
              exact ib_oN (by omega) (by decide)
            refine S_X23_chooseRow_237 Fυ pX ⟨ib4, ib4, ib_oN (by omega) (by decide), ibn, ib4, ib4, ?_⟩
            rw [oN_t (by omega), oN_t (by omega), hRυ.1, oN_t (by omega), hLυ.2.2 p _ hLp]
            rw [wi_ne (show ¬ (2981 + 8 * xi + 6 = 2981 + 8 * xi + 1 + 1 + role ∧ role = R.length) by omega), hRυ.1, oN_1]
            obtain ⟨ψ, hψ⟩ : ∃ x, x = (((υ.wi (2981 + 8 * xi + 1 + 1 + role) R.length (Int32.ofNat (L.getD p 0))).wi (2981 + 8 * xi + 6) role (Int32.ofNat (R.length + 1))).wi 0 74 ((((υ.wi (2981 + 8 * xi + 1 + 1 + role) R.length (Int32.ofNat (L.getD p 0))).wi (2981 + 8 * xi + 6) role (Int32.ofNat (R.length + 1))).i 0 74) - (1 : Int32))) := ⟨_, rfl⟩
            rw [← hψ]
            have gψ : GF (rwE (2981 + 8 * xi) role) υ ψ := by
              rw [hψ]
              exact ((GF.wi (by unfold rwE; omega)).tr (GF.wi (by unfold rwE; omega))).tr (GF.wi (by unfold rwE; omega))
            have Fψ : FX ΦR ψ.sh ψ.r := by rw [hψ]; exact Fυ
            have Mψ : MmR W wy ψ := Mυ.same (by rw [hψ, wi_row (by omega), wi_row (by omega), wi_row (by omega)]) (by rw [hψ, wi_row (by omega), wi_row (by omega), wi_row (by omega)])
            have hRψ : RwS ψ (2981 + 8 * xi) role (R ++ [L.getD p 0]) false := by
              refine ⟨?_, fun i y hy => ?_, ?_⟩
              · rw [hψ, wi_ne (by omega), wi_at, List.length_append]
                rfl
              · rw [hψ, wi_ne (by omega), wi_ne (by omega)]
                by_cases q : i = R.length
                · subst q
                  rw [List.getElem?_append_right (Nat.le_refl _), Nat.sub_self] at hy
                  cases hy
                  exact wi_at _ _ _ _
                · have hi : i < R.length := by
                    have := (List.getElem?_eq_some_iff.mp hy).1
                    rw [List.length_append] at this
                    have : i < R.length + 1 := this
                    omega
                  rw [List.getElem?_append_left hi] at hy
                  rw [wi_ne (by omega)]
                  exact hRυ.2.1 i y hy
              · rw [hψ, wi_ne (by omega), wi_ne (by omega), wi_ne (by omega)]
                exact hRυ.2.2
            have h74 : ψ.i 0 74 = Int32.ofNat (L.length - 1) := by
              rw [hψ, wi_at, wi_ne (by omega), wi_ne (by omega), hLυ.1, oN_p1 (by omega)]
            have h2131 : ∀ i x, L[i]? = some x → ψ.i 2131 i = Int32.ofNat x := fun i x hx => by
              rw [hψ, wi_row (by decide), wi_row (by omega), wi_row (by omega)]
              exact hLυ.2.2 i x hx
            have elen : (L.eraseIdx p).length = L.length - 1 := List.length_eraseIdx_of_lt hp
            -- the others move up
            have mv : ∀ r j (φ : Sg), L.length - 1 - j = r → p ≤ j → j ≤ L.length - 1 → GF (rwE (2981 + 8 * xi) role) σ φ → FX ΦR φ.sh φ.r → MmR W wy φ → RwS φ (2981 + 8 * xi) role (R ++ [L.getD p 0]) false → φ.i 0 74 = Int32.ofNat (L.length - 1) → (∀ i x, i < j → (L.eraseIdx p)[i]? = some x → φ.i 2131 i = Int32.ofNat x) → (∀ i x, j ≤ i → L[i]? = some x → φ.i 2131 i = Int32.ofNat x) → B_X23_chooseRow_281 Z (d + 1) φ (2981 + 8 * xi) (Int32.ofNat role) kA (if st = true then 1 else 0) g6 (Int32.ofNat j) K := by
              intro r
              induction r with
              | zero =>
                intro j φ hr1 hpj hj gφ Fφ Mφ hRφ h74φ hlo hhi
                have e : j = L.length - 1 := by omega
                refine S_X23_chooseRow_281 Fφ pX ⟨fun _ => ?_, fun z => absurd (by rw [h74φ, e]; exact Int32.le_refl _) z⟩
                refine ih (L.eraseIdx p) (R ++ [L.getD p 0]) φ (by omega) (fun x hx => hLa x (List.mem_of_mem_eraseIdx hx)) gφ Fφ Mφ ⟨by rw [h74φ, elen], by omega, fun i x hx => hlo i x (by have := (List.getElem?_eq_some_iff.mp hx).1; omega) hx⟩ hRφ (by rw [List.length_append, elen]; show R.length + 1 + (L.length - 1) + _ ≤ 120; omega) (fun ω Fω gω Mω hω => ?_)
                refine hK ω Fω gω Mω ?_
                rw [elay]
                dsimp only
                rw [List.append_assoc] at hω
                by_cases q : (lyG nr st f (L.eraseIdx p)).2 = true
                · rw [if_pos q, if_pos q] at hω ⊢
                  exact hω
                · rw [if_neg q, if_neg q] at hω ⊢
                  exact hω
              | succ r ihr =>
                intro j φ hr1 hpj hj gφ Fφ Mφ hRφ h74φ hlo hhi
                have hj1 : j + 1 < L.length := by omega
                have eg : L[j + 1]? = some (L.getD (j + 1) 0) := by
                  rw [List.getD_eq_getElem?_getD, List.getElem?_eq_getElem hj1]
                  rfl
                refine S_X23_chooseRow_281 Fφ pX ⟨fun z => ?_, fun _ => ⟨?_, ib_oN (by omega) (by decide), ?_⟩⟩
                · exfalso
                  rw [h74φ, oN_le (by omega) (by omega)] at z
                  omega
                · rw [oN_1]
                  exact ib_oN (by omega) (by decide)
                · rw [oN_1, oN_t (by omega), oN_t (by omega), hhi (j + 1) _ (by omega) eg]
                  refine ihr (j + 1) _ (by omega) (by omega) (by omega) (gφ.tr (GF.wi (by unfold rwE; omega))) Fφ (Mφ.same (wi_row (by decide)) (wi_row (by decide))) ⟨by rw [wi_row (by omega)]; exact hRφ.1, fun i y hy => by rw [wi_row (by omega)]; exact hRφ.2.1 i y hy, by rw [wi_row (by omega)]; exact hRφ.2.2⟩ (by rw [wi_ne (by omega)]; exact h74φ) (fun i x hi hx => ?_) (fun i x hi hx => ?_)
                  · by_cases q : i = j
                    · subst q
                      rw [wi_at]
                      rw [er_get, if_neg (by omega), eg] at hx
                      cases hx
                      rfl
                    · rw [wi_ne (by omega)]
                      exact hlo i x (by omega) hx
                  · rw [wi_ne (by omega)]
                    exact hhi i x (by omega) hx
            refine mv (L.length - 1 - p) p ψ rfl (Nat.le_refl _) (by omega) (g2.tr gψ) Fψ Mψ hRψ h74 (fun i x hi hx => ?_) (fun i x hi hx => h2131 i x hx)
            rw [er_get, if_pos hi] at hx
            exact h2131 i x hx
          refine ⟨fun z => ?_, fun z => ⟨fun y => ?_, fun y => ⟨ib4, ?_⟩⟩⟩
          · rw [Int32.le_iff_toInt_le, oI_i (by omega) (by omega)] at z
            have z : 0 ≤ foI (frI nr L) := z
            refine S_X23_chooseRow_222 Fυ pX ⟨fun _ => ?_, fun w => ?_⟩
            · rw [oI_nn z]
              exact take _ (by omega) (by unfold pkO; rw [if_pos z])
            · exfalso
              apply w
              rw [Int32.le_iff_toInt_le, oI_i (by omega) (by omega)]
              exact z
          · rw [Int32.le_iff_toInt_le, oI_i (by omega) (by omega)] at z
            have z : ¬ 0 ≤ foI (frI nr L) := z
            have hsf : st = false := by
              cases q : st with
              | false => rfl
              | true =>
                rw [q] at y
                exact absurd y (by decide)
            have hpk : pkO nr st L = some (leI (frI nr L)).toNat := by
              unfold pkO
              rw [if_neg z, if_neg (by rw [hsf]; decide)]
            refine S_X23_chooseRow_222 Fυ pX ⟨fun w => ?_, fun _ => ?_⟩
            · exfalso
              rw [Int32.le_iff_toInt_le, oI_i (by omega) (by omega)] at w
              exact z w
            · have em : (if (υ.i 0 75) < (0 : Int32) then (0 : Int32) else (υ.i 0 75)) = Int32.ofNat (leI (frI nr L)).toNat := by
                rw [e75]
                by_cases w : leI (frI nr L) < 0
                · rw [if_pos (by rw [Int32.lt_iff_toInt_lt, oI_i (by omega) (by omega)]; exact w), show (leI (frI nr L)).toNat = 0 by omega]
                  rfl
                · rw [if_neg (by rw [Int32.lt_iff_toInt_lt, oI_i (by omega) (by omega)]; exact w), oI_nn (by omega)]
              rw [em]
              have hl0 : 0 < L.length := by omega
              exact take _ (by omega) hpk
          · rw [Int32.le_iff_toInt_le, oI_i (by omega) (by omega)] at z
            have z : ¬ 0 ≤ foI (frI nr L) := z
            have hst' : st = true := by
              cases q : st with
              | true => rfl
              | false =>
                rw [q] at y
                exact absurd rfl y
            have hpk : pkO nr st L = none := by
              unfold pkO
              rw [if_neg z, if_pos hst']
            have elay := lyG_none (f := f) hne hpk
            rw [oN_t (by omega), show vp_nar .boolean (1 : Int32) = 1 by decide]
            refine hK _ Fυ (g2.tr (GF.wi (by unfold rwE; omega))) (Mυ.same (wi_row (by omega)) (wi_row (by omega))) ?_
            rw [elay]
            dsimp only
            rw [if_pos rfl, if_pos rfl, List.append_nil]
            refine ⟨?_, fun i y hy => ?_, ?_⟩
            · rw [wi_ne (by omega)]
              exact hRυ.1
            · rw [wi_ne (by omega)]
              exact hRυ.2.1 i y hy
            · rw [wi_at]
              rfl
    -- gathering a group
    have gat : ∀ (g6 : Int32) (ly : Int) (rest : List (List Nat)), (-1 ≤ ly ∧ ly < 8) → (∀ τ R, GF (rwE (2981 + 8 * xi) role) σ τ → FX ΦR τ.sh τ.r → MmR W wy τ → RwS τ (2981 + 8 * xi) role R false → R.length + (rest.map List.length).sum ≤ 120 → (∀ υ, FX ΦR υ.sh υ.r → GF (rwE (2981 + 8 * xi) role) σ υ → MmR W wy υ → RwS υ (2981 + 8 * xi) role (R ++ (rwG nr st rest).1) (rwG nr st rest).2 → K (.inl none) υ) → B_X23_chooseRow_74 Z (d + 1) τ (2981 + 8 * xi) (Int32.ofNat role) kA (if st = true then 1 else 0) (g6 + (-1)) K) →
        ∀ (R : List Nat) τ, GF (rwE (2981 + 8 * xi) role) σ τ → FX ΦR τ.sh τ.r → MmR W wy τ → RwS τ (2981 + 8 * xi) role R false → R.length + ((gpL W.2.2.2 ap role ly :: rest).map List.length).sum ≤ 120 → τ.i 0 74 = 0 →
        (∀ υ, FX ΦR υ.sh υ.r → GF (rwE (2981 + 8 * xi) role) σ υ → MmR W wy υ → RwS υ (2981 + 8 * xi) role (R ++ (rwG nr st (gpL W.2.2.2 ap role ly :: rest)).1) (rwG nr st (gpL W.2.2.2 ap role ly :: rest)).2 → K (.inl none) υ) → B_X23_chooseRow_115 Z (d + 1) τ (2981 + 8 * xi) (Int32.ofNat role) kA (if st = true then 1 else 0) g6 (Int32.ofInt ly) 0 K := by
      intro g6 ly rest hly hrest R τ0 g0 F0 M0 hR0 hn h74 hK
      rw [List.map_cons, List.sum_cons] at hn
      have hap := hA.2.1
      have loop : ∀ r j (τ : Sg), ap.length - j = r → j ≤ ap.length → GF (rwE (2981 + 8 * xi) role) σ τ → FX ΦR τ.sh τ.r → MmR W wy τ → RwS τ (2981 + 8 * xi) role R false → LfS τ (gpL W.2.2.2 (ap.take j) role ly) → B_X23_chooseRow_115 Z (d + 1) τ (2981 + 8 * xi) (Int32.ofNat role) kA (if st = true then 1 else 0) g6 (Int32.ofInt ly) (Int32.ofNat j) K := by
        intro r
        induction r with
        | zero =>
          intro j τ hr1 hj g F Mτ hR hL
          have e : j = ap.length := by omega
          subst e
          obtain ⟨Hτ, Aτ, kτ, lτ⟩ := sta g F
          rw [List.take_length] at hL
          refine S_X23_chooseRow_115 F pX ⟨fun _ => ?_, fun z => absurd (by rw [Aτ.1]; exact Int32.le_refl _) z⟩
          refine lay g6 rest hrest _ (gpL W.2.2.2 ap role ly) R τ rfl (fun x hx => (List.mem_filter.mp hx).1) g F Mτ hL hR (by omega) (fun υ F2 g2 M2 R2 => hK υ F2 g2 M2 ?_)
          rw [rwG]
          by_cases q : (lyG nr st (gpL W.2.2.2 ap role ly).length (gpL W.2.2.2 ap role ly)).2 = true
          · rw [if_pos q, if_pos q] at R2
            rw [if_pos q, q]
            exact R2
          · rw [if_neg q, if_neg q] at R2
            rw [if_neg q]
            exact R2
        | succ r ih =>
          intro j τ hr1 hj g F Mτ hR hL
          have hlt : j < ap.length := by omega
          have e : ap[j]? = some ap[j] := List.getElem?_eq_getElem hlt
          obtain ⟨Hτ, Aτ, kτ, lτ⟩ := sta g F
          have hmj := (hm _ (List.getElem_mem hlt)).1
          obtain ⟨⟨y1, y2⟩, ⟨y3, y4⟩⟩ := Hτ.mt2 hW hmj.1 hmj.2
          obtain ⟨-, ⟨-, y5⟩, -⟩ := Hτ.mt hW hmj.1 hmj.2
          have hl8 := Hτ.2.1.2.2.2.1
          have et : gpL W.2.2.2 (ap.take (j + 1)) role ly = gpL W.2.2.2 (ap.take j) role ly ++ if (decide (rlM W.2.2.2 ap[j] = role) && decide (lyM W.2.2.2 ap[j] = ly)) = true then [ap[j]] else [] := by
            unfold gpL
            rw [List.take_add_one, e]
            show List.filter _ (ap.take j ++ [ap[j]]) = _
            rw [List.filter_append, List.filter_cons]
            split <;> rfl
          have hgl : (gpL W.2.2.2 (ap.take j) role ly).length ≤ j := by
            have := List.length_filter_le (fun m => decide (rlM W.2.2.2 m = role) && decide (lyM W.2.2.2 m = ly)) (ap.take j)
            rw [List.length_take] at this
            unfold gpL
            omega
          have nx : ∀ υ, GF (rwE (2981 + 8 * xi) role) σ υ → FX ΦR υ.sh υ.r → MmR W wy υ → RwS υ (2981 + 8 * xi) role R false → LfS υ (gpL W.2.2.2 (ap.take (j + 1)) role ly) → B_X23_chooseRow_115 Z (d + 1) υ (2981 + 8 * xi) (Int32.ofNat role) kA (if st = true then 1 else 0) g6 (Int32.ofInt ly) (Int32.ofNat j + 1) K := fun υ a1 a2 a3 a4 a5 => by
            rw [oN_1]
            exact ih (j + 1) υ (by omega) (by omega) a1 a2 a3 a4 a5
          refine S_X23_chooseRow_115 F pX ⟨fun z => ?_, fun _ => ⟨ib_oN (by omega) (by decide), ?_, ?_⟩⟩
          · exfalso
            rw [Aτ.1, oN_le (by omega) (by omega)] at z
            omega
          · rw [oN_t (by omega), Aτ.2.2 j _ e]
            exact ib_oN (by omega) (by decide)
          · rw [oN_t (by omega), Aτ.2.2 j _ e, oN_t (by omega), y3, y1, y5]
            refine ⟨fun z => ?_, fun z => ⟨fun y => ⟨?_, ?_⟩, fun y => ?_⟩⟩
            · have : rlM W.2.2.2 ap[j] ≠ role := fun q => z (by rw [q])
              rw [decide_eq_false this, Bool.false_and] at et
              have et : gpL W.2.2.2 (ap.take (j + 1)) role ly = gpL W.2.2.2 (ap.take j) role ly := et.trans (List.append_nil _)
              exact nx τ g F Mτ hR (by rw [et]; exact hL)
            · rw [hL.1]
              exact ib_oN (by omega) (by decide)
            · rw [oN_eq (by omega) (by omega)] at z
              have y := congrArg Int32.toInt y
              rw [oI_i (by omega) (by omega), oI_i (by omega) (by omega)] at y
              rw [decide_eq_true z, decide_eq_true y] at et
              have et : gpL W.2.2.2 (ap.take (j + 1)) role ly = gpL W.2.2.2 (ap.take j) role ly ++ [ap[j]] := et
              rw [hL.1, oN_t (by omega), oN_1]
              refine nx _ (g.tr ((GF.wi (by unfold rwE; omega)).tr (GF.wi (by unfold rwE; omega)))) F (Mτ.same (by rw [wi_row (by decide), wi_row (by decide)]) (by rw [wi_row (by decide), wi_row (by decide)])) ⟨?_, fun i y hy => ?_, ?_⟩ ⟨?_, ?_, fun i x hx => ?_⟩
              · rw [wi_row (by omega), wi_row (by omega)]
                exact hR.1
              · rw [wi_row (by omega), wi_row (by omega)]
                exact hR.2.1 i y hy
              · rw [wi_row (by omega), wi_row (by omega)]
                exact hR.2.2
              · rw [wi_at, et, List.length_append]
                rfl
              · rw [et, List.length_append]
                show _ + 1 ≤ 120
                omega
              · rw [wi_ne (by omega)]
                rw [et] at hx
                by_cases q : i = (gpL W.2.2.2 (ap.take j) role ly).length
                · subst q
                  rw [List.getElem?_append_right (Nat.le_refl _), Nat.sub_self] at hx
                  cases hx
                  exact wi_at _ _ _ _
                · have hi : i < (gpL W.2.2.2 (ap.take j) role ly).length := by
                    have := (List.getElem?_eq_some_iff.mp hx).1
                    rw [List.length_append] at this
                    have : i < (gpL W.2.2.2 (ap.take j) role ly).length + 1 := this
                    omega
                  rw [List.getElem?_append_left hi] at hx
                  rw [wi_ne (by omega)]
                  exact hL.2.2 i x hx
            · have : lyM W.2.2.2 ap[j] ≠ ly := fun q => y (by rw [q])
              rw [decide_eq_false this, Bool.and_false] at et
              have et : gpL W.2.2.2 (ap.take (j + 1)) role ly = gpL W.2.2.2 (ap.take j) role ly := et.trans (List.append_nil _)
              exact nx τ g F Mτ hR (by rw [et]; exact hL)
      exact loop ap.length 0 τ0 (by omega) (Nat.zero_le _) g0 F0 M0 hR0 ⟨h74, by show 0 ≤ 120; omega, fun i x hx => by cases hx⟩
    -- all groups
    have grp : ∀ g, g ≤ on.length → ∀ (R : List Nat) τ, GF (rwE (2981 + 8 * xi) role) σ τ → FX ΦR τ.sh τ.r → MmR W wy τ → RwS τ (2981 + 8 * xi) role R false → R.length + (((((on.take g).reverse.map fun l : Nat => (l : Int)) ++ [-1]).map (gpL W.2.2.2 ap role)).map List.length).sum ≤ 120 → (∀ υ, FX ΦR υ.sh υ.r → GF (rwE (2981 + 8 * xi) role) σ υ → MmR W wy υ → RwS υ (2981 + 8 * xi) role (R ++ (rwG nr st ((((on.take g).reverse.map fun l : Nat => (l : Int)) ++ [-1]).map (gpL W.2.2.2 ap role))).1) (rwG nr st ((((on.take g).reverse.map fun l : Nat => (l : Int)) ++ [-1]).map (gpL W.2.2.2 ap role))).2 → K (.inl none) υ) → B_X23_chooseRow_74 Z (d + 1) τ (2981 + 8 * xi) (Int32.ofNat role) kA (if st = true then 1 else 0) (Int32.ofInt ((g : Int) - 1)) K := by
      intro g
      induction g with
      | zero =>
        intro hg R τ gτ F Mτ hR hn hK
        refine S_X23_chooseRow_74 F pX ⟨fun z => absurd z (by decide), fun _ => ⟨fun z => absurd z (by decide), fun _ => ?_⟩⟩
        refine gat (Int32.ofInt ((0 : Nat) - 1)) (-1) [] (by omega) (fun τ2 R2 g2 F2 M2 hR2 _ hK2 => ?_) R _ (gτ.tr (GF.wi (by unfold rwE; omega))) F (Mτ.same (wi_row (by decide)) (wi_row (by decide))) ⟨by rw [wi_row (by omega)]; exact hR.1, fun i y hy => by rw [wi_row (by omega)]; exact hR.2.1 i y hy, by rw [wi_row (by omega)]; exact hR.2.2⟩ hn (wi_at _ _ _ _) hK
        refine S_X23_chooseRow_74 F2 pX ⟨fun _ => hK2 τ2 F2 g2 M2 ?_, fun z => absurd (by decide) z⟩
        rw [rwG, List.append_nil]
        exact hR2
      | succ g ih =>
        intro hg R τ gτ F Mτ hR hn hK
        have hlt : g < on.length := by omega
        have e : on[g]? = some on[g] := List.getElem?_eq_getElem hlt
        have hb8 := hon _ (List.getElem_mem hlt)
        have et : (on.take (g + 1)).reverse.map (fun l : Nat => (l : Int)) ++ [-1] = (on[g] : Int) :: ((on.take g).reverse.map (fun l : Nat => (l : Int)) ++ [-1]) := by
          rw [List.take_add_one, e]
          show (on.take g ++ [on[g]]).reverse.map (fun l : Nat => (l : Int)) ++ [-1] = _
          rw [List.reverse_append]
          rfl
        rw [et, List.map_cons] at hn hK
        obtain ⟨Hτ, Aτ, kτ, lτ⟩ := sta gτ F
        have en : Int32.ofInt (((g + 1 : Nat) : Int) - 1) = Int32.ofNat g := by
          rw [show (((g + 1 : Nat) : Int) - 1) = (g : Int) by omega]
          rfl
        rw [en]
        refine S_X23_chooseRow_74 F pX ⟨fun z => ?_, fun _ => ⟨fun _ => ?_, fun z => ?_⟩⟩
        · exfalso
          rw [Int32.lt_iff_toInt_lt, oN_i (by omega)] at z
          have z : (g : Int) < -1 := z
          omega
        · have el : (Int64.toInt32 (((Int64.toUInt64 (τ.l 0 68) >>> ((Int32.toInt64 ((4 : Int32) * Int32.ofNat g)).toUInt64 &&& Int64.toUInt64 63)).toInt64) &&& (15 : Int64))) - (1 : Int32) = Int32.ofInt (on[g] : Int) := by
            rw [lτ, show (4 : Int32) = Int32.ofNat 4 from rfl, oN_mul, n4_sh (by omega) (by omega), n4_and (enb g)]
            have ed : enL on / 16 ^ g % 16 = on[g] + 1 := by
              have key : ∀ (on : List Nat) (g : Nat) (hg : g < on.length), (∀ x ∈ on, x < 8) → enL on / 16 ^ g % 16 = on[g] + 1 := by
                intro on
                induction on with
                | nil => intro g hg; exact absurd hg (Nat.not_lt_zero _)
                | cons x r ih3 =>
                  intro g hg hx
                  have hx0 := hx x (List.mem_cons_self ..)
                  cases g with
                  | zero =>
                    show (x + 1 + 16 * enL r) / 1 % 16 = x + 1
                    omega
                  | succ g =>
                    have hg' : g < r.length := by
                      have : g + 1 < r.length + 1 := hg
                      omega
                    show (x + 1 + 16 * enL r) / 16 ^ (g + 1) % 16 = r[g] + 1
                    rw [Nat.pow_succ, Nat.mul_comm (16 ^ g) 16, ← Nat.div_div_eq_div_mul, show (x + 1 + 16 * enL r) / 16 = enL r by omega]
                    exact ih3 g hg' (fun y hy => hx y (List.mem_cons_of_mem _ hy))
              exact key on g hlt hon
            rw [ed]
            have : ∀ y : Fin 8, Int64.toInt32 (Int64.ofNat (y.val + 1)) - (1 : Int32) = Int32.ofInt (y.val : Int) := by decide +kernel
            exact this ⟨on[g], hb8⟩
          rw [el]
          refine gat (Int32.ofNat g) (on[g] : Int) _ (by omega) (fun τ2 R2 g2 F2 M2 hR2 hn2 hK2 => ?_) R _ (gτ.tr (GF.wi (by unfold rwE; omega))) F (Mτ.same (wi_row (by decide)) (wi_row (by decide))) ⟨by rw [wi_row (by omega)]; exact hR.1, fun i y hy => by rw [wi_row (by omega)]; exact hR.2.1 i y hy, by rw [wi_row (by omega)]; exact hR.2.2⟩ hn (wi_at _ _ _ _) hK
          have e2 : Int32.ofNat g + (-1) = Int32.ofInt ((g : Int) - 1) := by
            rw [show (g : Int) - 1 = (g : Int) + (-1) by omega, Int32.ofInt_add]
            rfl
          rw [e2]
          exact ih (by omega) R2 τ2 g2 F2 M2 hR2 hn2 hK2
        · exfalso
          apply z
          rw [Int32.le_iff_toInt_le, oN_i (by omega)]
          show (0 : Int) ≤ (g : Int)
          omega
    -- how many layers are on
    have cnt : ∀ r j, on.length - j = r → j ≤ on.length → B_X23_chooseRow_48 Z (d + 1) σ1 (2981 + 8 * xi) (Int32.ofNat role) kA (if st = true then 1 else 0) (Int32.ofNat j) K := by
      obtain ⟨-, -, -, l1⟩ := sta g1 F1
      intro r
      induction r with
      | zero =>
        intro j hr1 hj
        have e : j = on.length := by omega
        subst e
        refine S_X23_chooseRow_48 F1 pX ⟨fun _ => ?_, fun z => ?_⟩
        · have e2 : Int32.ofNat on.length - (1 : Int32) = Int32.ofInt ((on.length : Int) - 1) := by
            rw [Int32.ofInt_sub]
            rfl
          rw [e2]
          refine grp on.length (Nat.le_refl _) [] σ1 g1 F1 M1 R1 ?_ (fun υ F2 g2 M2 R2 => ?_)
          · rw [List.take_length]
            have hN : (on.reverse.map (fun l : Nat => (l : Int)) ++ [-1]).Nodup := by
              rw [List.nodup_append]
              refine ⟨?_, by simp, fun a ha b hb => ?_⟩
              · rw [List.Nodup, List.pairwise_map, List.pairwise_reverse]
                exact hnd.imp fun q z => q (by omega)
              · obtain ⟨y, -, rfl⟩ := List.mem_map.mp ha
                rw [List.mem_singleton] at hb
                omega
            have := gp_sum W.2.2.2 ap role _ hN
            have h2 := List.length_filter_le (fun m => decide (lyM W.2.2.2 m ∈ on.reverse.map (fun l : Nat => (l : Int)) ++ [-1])) ap
            have h3 := hA.2.1
            show 0 + _ ≤ 120
            omega
          · rw [List.take_length] at R2
            exact h υ F2 g2 M2 R2
        · exfalso
          apply z
          rw [l1, show (4 : Int32) = Int32.ofNat 4 from rfl, oN_mul, n4_sh (by omega) (by omega), (enL_div on on.length (fun y hy => by have := hon y hy; omega)).mpr (Nat.le_refl _)]
          decide
      | succ r ih =>
        intro j hr1 hj
        refine S_X23_chooseRow_48 F1 pX ⟨fun z => ?_, fun _ => ?_⟩
        · exfalso
          rw [l1, show (4 : Int32) = Int32.ofNat 4 from rfl, oN_mul, n4_sh (by omega) (by omega), show (0 : Int64) = Int64.ofNat 0 from rfl, cmpN (enb j) (by omega), enL_div on j (fun y hy => by have := hon y hy; omega)] at z
          omega
        · rw [oN_1]
          exact ih (j + 1) (by omega) (by omega)
    exact cnt on.length 0 (by omega) (Nat.zero_le _)
  -- whether it is strict
  have ecl : W.2.1[c]? = some W.2.1[c] := List.getElem?_eq_getElem hc
  obtain ⟨-, -, ⟨j1, j2⟩, -⟩ := H.2.1.2.1.2.2 c _ ecl
  rw [ecl] at hst
  have hst : (decide (role = 1) || (decide (role = 0) && decide (W.2.1[c].2.2.1 = 0))) = st := hst
  refine S_X23_chooseRow_0 H.1 ⟨fun z => ?_, fun z => ⟨fun y => ?_, fun y => ⟨pX, ?_, ?_⟩⟩⟩
  · rw [show (1 : Int32) = Int32.ofNat 1 from rfl, oN_eq (by omega) (by omega)] at z
    rw [decide_eq_true z, Bool.true_or] at hst
    rw [← hst] at main
    exact S_X23_chooseRow_24 H.1 main
  · have z : role ≠ 1 := fun q => z (by rw [q]; rfl)
    have y : role ≠ 0 := fun q => y (by rw [q]; rfl)
    rw [decide_eq_false z, decide_eq_false y] at hst
    have hst : false = st := hst
    rw [← hst] at main
    exact S_X23_chooseRow_28 H.1 main
  · rw [hXc]
    exact ib_oN (by omega) (by decide)
  · have z : role ≠ 1 := fun q => z (by rw [q]; rfl)
    rw [show (0 : Int32) = Int32.ofNat 0 from rfl, oN_eq (by omega) (by omega)] at y
    rw [decide_eq_false z, decide_eq_true y] at hst
    have hst : decide (W.2.1[c].2.2.1 = 0) = st := hst
    rw [hXc, oN_t (by omega), j2]
    refine ⟨fun w => ?_, fun w => ?_⟩
    · have w : W.2.1[c].2.2.1 ≠ 0 := fun q => w (by rw [q]; rfl)
      rw [decide_eq_false w] at hst
      rw [← hst] at main
      exact S_X23_chooseRow_28 H.1 main
    · rw [show (0 : Int32) = Int32.ofNat 0 from rfl, oN_eq (by omega) (by omega)] at w
      rw [decide_eq_true w] at hst
      rw [← hst] at main
      exact S_X23_chooseRow_24 H.1 main
end CROW

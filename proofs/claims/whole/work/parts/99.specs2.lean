/-! THE REFERENCE'S READER: specs(), the loop -/
def WM (n N M : Nat) (σ0 : Sg) (lst0 : List Nat) (m0 cap0 : Nat) (τ : Sg) (a q : Nat) : Prop := q ≤ n ∧ FX ΦR τ.sh τ.r ∧ ∃ σ m lst cap, MF N M σ0 σ lst0 cap0 lst cap (fun i => m0 ≤ i) ∧ FX ΦR σ.sh σ.r ∧ LsS σ (N + 1) lst cap ∧ σ.i N 1 = Int32.ofNat m ∧ m0 ≤ m ∧ m ≤ lst.length ∧ lst.length ≤ 23400 ∧ cap ≤ 2 * lst.length + 10 ∧ a = σ.sh.length ∧ τ.sh = σ.sh ++ [Sh.obj 23] ∧ τ.i a 6 = Int32.ofNat q ∧ ∀ b, b < σ.sh.length → τ.i b = σ.i b ∧ τ.l b = σ.l b ∧ τ.r b = σ.r b
theorem WM.tr {n N M : Nat} {σ0 σ : Sg} {lst0 lst : List Nat} {m0 m cap0 cap : Nat} {a q : Nat} {υ : Sg} {W : Nat → Prop} (h : WM n N M σ lst m cap υ a q) (H : MF N M σ0 σ lst0 cap0 lst cap W) (hW : ∀ i, W i → m0 ≤ i) (hm : m0 ≤ m) : WM n N M σ0 lst0 m0 cap0 υ a q := by
  obtain ⟨h1, h2, σ1, m1, lst1, cap1, h3, h4, h5, h6, h7, h8⟩ := h
  exact ⟨h1, h2, σ1, m1, lst1, cap1, ((MF.refl N M σ0 lst0 cap0 (fun i => m0 ≤ i)).tr H hW).tr h3 (fun i hi => Nat.le_trans hm hi), h4, h5, h6, by omega, h8⟩
theorem WR.wm {n N M nv : Nat} {σ : Sg} {lst : List Nat} {m cap : Nat} {a q : Nat} {υ : Sg} (h : WR n N nv σ lst m cap υ a q) : WM n N M σ lst m cap υ a q := by
  obtain ⟨h1, h2, σ1, m1, lst1, cap1, h3, h4⟩ := h
  exact ⟨h1, h2, σ1, m1, lst1, cap1, h3.mf, h4⟩
section SPEC2
variable {Z : zT} {d : Nat} {t : Nat → Int32} {n N : Nat} {env : Env} {B : Int32 × Int32 × Rf} {c : Nat} {E : Evs} {m : Nat} {lst : List Nat} {cap : Nat} {M places : Nat}
/-- a variable more -/
theorem RS.var {σ : Sg} {p o : Nat} {vs : List (Nat × Nat)} {es : Evs} {u q l : Nat} (S : RS t n N env B σ p c o vs es m lst cap u) (hvo : vs.length + 1 ≤ o + 3) (hq : q + l ≤ 8192) (hl : l ≤ 16) : RS t n N env B ((σ.wi 54 vs.length (Int32.ofNat (32 * q + l))).wi 0 32 (Int32.ofNat (vs.length + 1))) p c o (vs ++ [(q, l)]) es m lst cap u ∧ RF N vs.length σ ((σ.wi 54 vs.length (Int32.ofNat (32 * q + l))).wi 0 32 (Int32.ofNat (vs.length + 1))) lst cap lst cap (fun _ => False) := by
  have hso := S.vo
  obtain ⟨b1, b2, b3, b4, b5⟩ := S.bd
  have hx : ∀ a k, ¬ (a = 54 ∧ k = vs.length) → ¬ (a = 0 ∧ k = 32) → ((σ.wi 54 vs.length (Int32.ofNat (32 * q + l))).wi 0 32 (Int32.ofNat (vs.length + 1))).i a k = σ.i a k := fun a k z1 z2 => (wi_ne z2).trans (wi_ne z1)
  have hV : VrR (vs ++ [(q, l)]) ((σ.wi 54 vs.length (Int32.ofNat (32 * q + l))).wi 0 32 (Int32.ofNat (vs.length + 1))) := by
    refine ⟨by rw [List.length_append]; exact wi_at _ _ _ _, fun k x hk => ?_⟩
    by_cases z : k < vs.length
    · rw [List.getElem?_append_left z] at hk
      rw [hx 54 k (by omega) (by omega)]
      exact S.vr.2 k x hk
    · rw [List.getElem?_append_right (by omega)] at hk
      have hk0 : k - vs.length = 0 := by
        have := (List.getElem?_eq_some_iff.mp hk).1
        have : k - vs.length < 1 := this
        omega
      rw [hk0] at hk
      cases hk
      have : k = vs.length := by omega
      subst this
      exact ⟨(wi_ne (by omega)).trans (wi_at _ _ _ _), hq, hl⟩
  refine ⟨S.upd (τ := (σ.wi 54 vs.length (Int32.ofNat (32 * q + l))).wi 0 32 (Int32.ofNat (vs.length + 1))) S.fx rfl (fun a h1 h2 h3 => funext fun k => hx a k (by omega) (by omega)) (fun k hk => hx 0 k (by omega) (fun z => hk (by rw [z.2]; decide))) rfl rfl (fun _ _ => rfl) ?_ hV ⟨by rw [List.length_append]; exact hvo, hso.2⟩ ((hx 0 20 (by omega) (by omega)).trans S.op) ((hx 0 21 (by omega) (by omega)).trans S.ct) (S.rl.mono (hx 0 23 (by omega) (by omega)) (hx 0 24 (by omega) (by omega)) (hx 0 27 (by omega) (by omega))) ((hx 0 22 (by omega) (by omega)).trans S.cc) ⟨b4, b5⟩, ?_⟩
  · obtain ⟨w1, w2, w3, w4, w5, w6⟩ := S.cur
    exact ⟨w1, (hx 0 18 (by omega) (by omega)).trans w2, (hx 0 16 (by omega) (by omega)).trans w3, (hx 0 17 (by omega) (by omega)).trans w4, fun a b => (hx 0 19 (by omega) (by omega)).trans (w5 a b), fun a b => ⟨(hx 0 26 (by omega) (by omega)).trans (w6 a b).1, (w6 a b).2⟩⟩
  · exact ⟨⟨[], (List.append_nil _).symm, fun v hv => (by cases hv), RmL.refl _ _⟩, fun a _ h1 h2 _ _ _ => ⟨funext fun k => hx a k (by omega) (by omega), rfl, fun _ => rfl⟩, fun k hk => hx 0 k (by omega) (fun z => hk (by rw [z.2]; decide)), rfl, fun _ _ => rfl, fun k hk => hx 54 k (by omega) (by omega), Or.inl rfl⟩
theorem nar01 (b : Bool) : vp_nar .boolean (if b = true then 1 else 0) = if b = true then 1 else 0 := by cases b <;> decide
theorem rs_specs (hZ : ZK Z) (hd : 19 ≤ d) (hM : MtP M) (hpl : places ≤ 3) : ∀ (f : Nat) (σ : Sg) (p k : Nat) (vs : List (Nat × Nat)) (es : Evs) (acc : List Spc) (u : Nat) (K : kS), n - p < f → k + f ≤ 8300 → RS t n N env B σ p c 0 vs (E ++ es) m lst cap u → acc.length = min k 3 → SpD σ M acc →
    (∀ p' V es' acc', pSp t n env places f p k (vsN t vs) es acc = .inr (p', V, es', acc') → ∀ τ vs', vsN t vs' = V → RS t n N env B τ p' c 0 vs' (E ++ es') m lst cap u → MF N M σ τ lst cap lst cap (fun _ => False) → p ≤ p' → SpD τ M acc' → τ.i M = σ.i M ∧ τ.r M = σ.r M ∧ τ.i 0 6 = σ.i 0 6 → K (.inl none) τ) →
    (∀ q, pSp t n env places f p k (vsN t vs) es acc = .inl q → ∀ τ a, WM n N M σ lst m cap τ a q → K (.inr ("DispatchHouseModel$Wrong", a)) τ) → B_X23_specs_2 Z (d + 1) σ M (Int32.ofNat places) (Int32.ofNat k) K := by
  intro f
  induction f with
  | zero => intro σ p k vs es acc u K h; omega
  | succ f ih =>
    intro σ p k vs es acc u K hf hkf S hal hD h1 h0
    have hpn := S.pn
    have hMr := hM.rg
    have hvo := S.vo
    obtain ⟨b1, b2, b3, b4, b5⟩ := S.bd
    have hN := S.nn
    -- what is kept on the way
    have go33 : ∀ (τ1 : Sg) (es1 : Evs), es1 = es ++ (if 0 < places ∧ k = places then [(p, 4)] else []) → tyS t n p = 2 → p + lnS t n p ≤ 8192 → lnS t n p ≤ 16 → RS t n N env B τ1 (nxS t n p) c 0 vs (E ++ es1) m lst cap (u - 2) → RF N vs.length σ τ1 lst cap lst cap (fun _ => False) → B_X23_specs_33 Z (d + 1) τ1 M (Int32.ofNat places) (Int32.ofNat k) (Int32.ofNat p) (Int32.ofNat (32 * p + lnS t n p)) (Int32.ofNat 0) K := by
      intro τ1 es1 he1 hty hq hl S1 G1
      have hp : p < n := ty_pos (t := t) (by omega)
      have hg := nxS_gt (t := t) hp
      have enm : txN t p (lnS t n p) = nmS t n p := rfl
      have hvl := vsN_len t vs
      -- behind the variable
      have go100 : ∀ (τ2 : Sg) (vs2 : List (Nat × Nat)) (es2 : Evs), es2 = es1 ++ dupK (vsN t vs) (nmS t n p) p (vsN t vs).length → vsN t vs2 = (if (vsN t vs).length < 3 then vsN t vs ++ [nmS t n p] else vsN t vs) → RS t n N env B τ2 (nxS t n p) c 0 vs2 (E ++ es2) m lst cap (u - 2) → RF N 0 σ τ2 lst cap lst cap (fun _ => False) → B_X23_specs_100 Z (d + 1) τ2 M (Int32.ofNat places) (Int32.ofNat k) K := by
        intro τ2 vs2 es2 he2 hv2 S2 G2
        have hu2 := S2.bd
        have ep : pSp t n env places (f + 1) p k (vsN t vs) es acc = (match pSk t n env (nxS t n p) with
          | .inl q => .inl q
          | .inr (p1, es1', kd) => match pSq t n p1 with
            | .inl q => .inl q
            | .inr (p2, hs, v) =>
              if tyS t n p2 = 6 then pSp t n env places f (nxS t n p2) (k + 1) (vsN t vs2) (es2 ++ es1') (if k < 3 then acc ++ [(kd, hs, v)] else acc)
              else if tyS t n p2 = 5 then .inr (nxS t n p2, vsN t vs2, es2 ++ es1' ++ (if 0 < places ∧ k + 1 < places then [(p2, 4)] else []), (if k < 3 then acc ++ [(kd, hs, v)] else acc))
              else .inl p2) := by
          rw [pSp, if_pos hty, hv2, he2, he1]
          rfl
        -- behind [: KIND] [== NUMBER]
        have go202 : ∀ (τ5 : Sg) (p2 : Nat) (es5 : Evs) (kd v : Int) (hs : Bool), nxS t n p ≤ p2 → RS t n N env B τ5 p2 c 0 vs2 (E ++ (es2 ++ es5)) m lst cap (u - 2) → MF N M σ τ5 lst cap lst cap (fun _ => False) → τ5.i M = σ.i M → τ5.r M = σ.r M → τ5.i 0 6 = σ.i 0 6 → SpD τ5 M (if k < 3 then acc ++ [(kd, hs, v)] else acc) → pSp t n env places (f + 1) p k (vsN t vs) es acc = (if tyS t n p2 = 6 then pSp t n env places f (nxS t n p2) (k + 1) (vsN t vs2) (es2 ++ es5) (if k < 3 then acc ++ [(kd, hs, v)] else acc)
              else if tyS t n p2 = 5 then .inr (nxS t n p2, vsN t vs2, es2 ++ es5 ++ (if 0 < places ∧ k + 1 < places then [(p2, 4)] else []), (if k < 3 then acc ++ [(kd, hs, v)] else acc))
              else .inl p2) → B_X23_specs_202 Z (d + 1) τ5 M (Int32.ofNat places) (Int32.ofNat k) K := by
          intro τ5 p2 es5 kd v hs hp2 S5 H5 eM5 rM5 e65 D5 ep5
          have hpn5 := S5.pn
          have gow : ∀ (τ6 : Sg) (es6 : Evs), es6 = (if 0 < places ∧ k + 1 < places then [(p2, 4)] else []) → tyS t n p2 ≠ 6 → RS t n N env B τ6 p2 c 0 vs2 (E ++ (es2 ++ es5 ++ es6)) m lst cap (u - 2) → RF N vs2.length τ5 τ6 lst cap lst cap (fun _ => False) → ∀ K', (∀ τ, K (.inl none) τ → K' (.inl none) τ) → (∀ τ e, K (.inr e) τ → K' (.inr e) τ) → B_X23_want_0 Z d τ6 41 K' := by
            intro τ6 es6 he6 n6 S6 G6 K' hk1 hk2
            rw [if_neg n6, ← he6] at ep5
            have H6 : MF N M σ τ6 lst cap lst cap (fun _ => False) := H5.tr G6.mf (fun _ z => z)
            refine rs_want (y := 5) (by decide) hZ (by omega) S6 (fun h5 τ7 S7 G7 => hk1 _ ?_) (fun n5 τ7 a w => hk2 _ _ (h0 _ (by rw [ep5, if_neg n5]) τ7 a ((w.wm).tr H6 (fun _ z => z.elim) (Nat.le_refl _))))
            have hg5 := nxS_gt (t := t) (n := n) (p := p2) (ty_pos (t := t) (by omega))
            have G57 := G6.tr G7 (fun _ z => z) (Nat.le_refl _)
            refine h1 _ _ _ _ (by rw [ep5, if_pos h5]) τ7 vs2 rfl (S7.wk (by omega) (by omega)) (H6.tr G7.mf (fun _ z => z)) (by omega) (D5.fr S5 G57 hM) ⟨?_, ?_, (G57.2.2.1 6 (by decide)).trans e65⟩
            · rw [rf_M S5 G57 hM (a := M) (by omega)]
              exact eM5
            · have hs5 := sh_ge S5.fx
              have := (G57.2.1 M (by omega) (by omega) (by omega) (by omega) (by omega) (fun i hi => by
                have := nd_ge S5.fx (S5.ls.2.2.2.1 M (List.mem_of_getElem? hi))
                omega)).2.2 (fun z => by
                have := oa_ge S5.fx (S5.ls.arr z)
                omega)
              rw [this]
              exact rM5
          refine S_X23_specs_202 S5.fx (rs_is (y := 6) (by decide) (by omega) S5 (fun h6 => ⟨fun _ => ?_, fun z => absurd z (by decide)⟩) (fun n6 => ⟨fun z => absurd rfl z, fun _ => ⟨fun hle => ?_, fun hgt => ⟨fun hle => ?_, fun hlt => ?_⟩⟩⟩))
          · have hp6 : p2 < n := ty_pos (t := t) (by omega)
            have hg6 := nxS_gt (t := t) hp6
            rw [if_pos h6] at ep5
            rw [oN_1]
            refine rs_next hZ (by omega) S5 hp6 (fun τ6 S6 G6 => ?_)
            have H6 : MF N M σ τ6 lst cap lst cap (fun _ => False) := H5.tr G6.mf (fun _ z => z)
            have e6M : τ6.i M = σ.i M := by
              rw [rf_M S5 G6 hM (a := M) (by omega)]
              exact eM5
            have r6M : τ6.r M = σ.r M := by
              have hs5 := sh_ge S5.fx
              have := (G6.2.1 M (by omega) (by omega) (by omega) (by omega) (by omega) (fun i hi => by
                have := nd_ge S5.fx (S5.ls.2.2.2.1 M (List.mem_of_getElem? hi))
                omega)).2.2 (fun z => by
                have := oa_ge S5.fx (S5.ls.arr z)
                omega)
              rw [this]
              exact rM5
            refine ih τ6 (nxS t n p2) (k + 1) vs2 (es2 ++ es5) _ (u - 2 - 2) K (by omega) (by omega) S6 ?_ (D5.fr S5 G6 hM) (fun p' V es' acc' hpa τ7 vs7 hv7 S7 G7 hp7 D7 hk7 => h1 p' V es' acc' (by rw [ep5]; exact hpa) τ7 vs7 hv7 (S7.wk (by omega) (by omega)) (H6.tr G7 (fun _ z => z)) (by omega) D7 ⟨?_, ?_, ?_⟩) (fun q hpa τ7 a w => h0 q (by rw [ep5]; exact hpa) τ7 a (w.tr H6 (fun _ z => z.elim) (Nat.le_refl _)))
            · split
              · rw [List.length_append, hal]
                show min k 3 + 1 = min (k + 1) 3
                omega
              · rw [hal]
                omega
            · rw [hk7.1]
              exact e6M
            · rw [hk7.2.1]
              exact r6M
            · rw [hk7.2.2, G6.2.2.1 6 (by decide)]
              exact e65
          · have hm0 : places = 0 := by
              have := (oN_le (b := 0) (by omega) (by omega)).mp hle
              omega
            exact gow τ5 [] (by rw [if_neg (by omega)]) n6 (by rw [List.append_nil]; exact S5) (RF.refl _ _ _ _ _ _) _ (fun _ z => z) (fun _ _ z => z)
          · rw [oN_1] at hle
            have := (oN_le (by omega) (by omega)).mp hle
            exact gow τ5 [] (by rw [if_neg (by omega)]) n6 (by rw [List.append_nil]; exact S5) (RF.refl _ _ _ _ _ _) _ (fun _ z => z) (fun _ _ z => z)
          · rw [oN_1] at hlt
            have hlt2 : k + 1 < places := Nat.lt_of_not_le fun z => hlt ((oN_le (by omega) (by omega)).mpr z)
            rw [S5.cur.2.1]
            refine rs_breaks (r := 4) (by omega) (by omega) (by decide) S5 (fun τ6 S6 G6 => ?_)
            rw [List.append_assoc] at S6
            exact gow τ6 [(p2, 4)] (by rw [if_pos ⟨by omega, hlt2⟩]) n6 S6 G6 _ (fun _ z => z) (fun _ _ z => z)
        -- the spec written
        have go173 : ∀ (τ4 : Sg) (p2 : Nat) (es4 : Evs) (kd v : Int) (hs : Bool), nxS t n p ≤ p2 → RS t n N env B τ4 p2 c 0 vs2 (E ++ (es2 ++ es4)) m lst cap (u - 2) → RF N 0 σ τ4 lst cap lst cap (fun _ => False) → pSp t n env places (f + 1) p k (vsN t vs) es acc = (if tyS t n p2 = 6 then pSp t n env places f (nxS t n p2) (k + 1) (vsN t vs2) (es2 ++ es4) (if k < 3 then acc ++ [(kd, hs, v)] else acc)
              else if tyS t n p2 = 5 then .inr (nxS t n p2, vsN t vs2, es2 ++ es4 ++ (if 0 < places ∧ k + 1 < places then [(p2, 4)] else []), (if k < 3 then acc ++ [(kd, hs, v)] else acc))
              else .inl p2) → B_X23_specs_173 Z (d + 1) τ4 M (Int32.ofNat places) (Int32.ofNat k) (Int32.ofInt kd) (Int32.ofInt v) (if hs = true then 1 else 0) K := by
          intro τ4 p2 es4 kd v hs hp2 S4 G4 ep4
          have D4 := hD.fr S G4 hM
          have e4M : τ4.i M = σ.i M := rf_M S G4 hM (by omega)
          have r4M : τ4.r M = σ.r M := by
            have hs5 := sh_ge S.fx
            exact (G4.2.1 M (by omega) (by omega) (by omega) (by omega) (by omega) (fun i hi => by
              have := nd_ge S.fx (S.ls.2.2.2.1 M (List.mem_of_getElem? hi))
              omega)).2.2 (fun z => by
              have := oa_ge S.fx (S.ls.arr z)
              omega)
          refine S_X23_specs_173 S4.fx ⟨fun h3 => ?_, fun h3 => ⟨hM.sh, ?_⟩⟩
          · have hk3 := (oN_le (a := 3) (by omega) (by omega)).mp h3
            refine go202 τ4 p2 es4 kd v hs hp2 S4 G4.mf e4M r4M (G4.2.2.1 6 (by decide)) ?_ ep4
            rw [if_neg (by omega)]
            exact D4
          · have hk3 : k < 3 := Nat.lt_of_not_le fun z => h3 ((oN_le (a := 3) (by omega) (by omega)).mpr z)
            refine ⟨ib_oN hk3 (by decide), ib_oN hk3 (by decide), ib_oN hk3 (by decide), ?_⟩
            rw [oN_t (by omega), nar01]
            obtain ⟨S5, H5⟩ := S4.mwi hM (a := M + 1) (k := k) (x := Int32.ofInt kd) (by omega)
            obtain ⟨S6, H6⟩ := S5.mwi hM (a := M + 3) (k := k) (x := if hs = true then 1 else 0) (by omega)
            obtain ⟨S7, H7⟩ := S6.mwi hM (a := M + 2) (k := k) (x := Int32.ofInt v) (by omega)
            refine go202 _ p2 es4 kd v hs hp2 S7 (((G4.mf.tr H5 (fun _ z => z)).tr H6 (fun _ z => z)).tr H7 (fun _ z => z)) ?_ r4M ?_ ?_ ep4
            · rw [wi_row (by omega), wi_row (by omega), wi_row (by omega)]
              exact e4M
            · rw [wi_ne (by omega), wi_ne (by omega), wi_ne (by omega)]
              exact G4.2.2.1 6 (by decide)
            · rw [if_pos hk3]
              intro i s hs2
              have hkl : acc.length = k := by omega
              by_cases hi : i = k
              · subst hi
                rw [← hkl, List.getElem?_append_right (Nat.le_refl _), Nat.sub_self] at hs2
                cases hs2
                refine ⟨?_, ?_, wi_at _ _ _ _⟩
                · rw [wi_ne (by omega), wi_ne (by omega), wi_at]
                · rw [wi_ne (by omega), wi_at]
              · have hil : i < (acc ++ [(kd, hs, v)]).length := (List.getElem?_eq_some_iff.mp hs2).1
                rw [List.length_append] at hil
                have hil : i < acc.length + 1 := hil
                rw [List.getElem?_append_left (by omega)] at hs2
                obtain ⟨y1, y2, y3⟩ := D4 i s hs2
                refine ⟨?_, ?_, ?_⟩
                · rw [wi_ne (by omega), wi_ne (by omega), wi_ne (by omega)]
                  exact y1
                · rw [wi_ne (by omega), wi_ne (by omega), wi_ne (by omega)]
                  exact y2
                · rw [wi_ne (by omega), wi_ne (by omega), wi_ne (by omega)]
                  exact y3
        -- [== NUMBER]
        have go150 : ∀ (τ3 : Sg) (p1 : Nat) (es3 : Evs) (kd : Int), nxS t n p ≤ p1 → pSk t n env (nxS t n p) = .inr (p1, es3, kd) → RS t n N env B τ3 p1 c 0 vs2 (E ++ (es2 ++ es3)) m lst cap (u - 2) → RF N 0 σ τ3 lst cap lst cap (fun _ => False) → B_X23_specs_150 Z (d + 1) τ3 M (Int32.ofNat places) (Int32.ofNat k) (Int32.ofInt kd) 0 0 K := by
          intro τ3 p1 es3 kd hp1 hsk S3 G3
          rw [hsk] at ep
          dsimp only at ep
          refine S_X23_specs_150 S3.fx (rs_is (y := 16) (by decide) (by omega) S3 (fun h16 => ⟨fun z => absurd z (by decide), fun _ => ?_⟩) (fun n16 => ⟨fun _ => ?_, fun z => absurd rfl z⟩))
          · have hp16 : p1 < n := ty_pos (t := t) (by omega)
            have hg16 := nxS_gt (t := t) hp16
            have hsq : pSq t n p1 = (match pSg t n (nxS t n p1) with
              | .inl q => .inl q
              | .inr (v, p') => .inr (p', true, v)) := by
              unfold pSq
              rw [if_pos h16]
              rfl
            refine rs_next hZ (by omega) S3 hp16 (fun τ4 S4 G4 => ?_)
            have G34 := G3.tr G4 (fun _ z => z) (Nat.zero_le _)
            refine rs_signed hZ (by omega) S4 (fun v p' hs τ5 S5 G5 => ?_) (fun q hs τ5 a w => h0 q (by rw [ep, hsq, hs]) τ5 a ((w.wm).tr G34.mf (fun _ z => z.elim) (Nat.le_refl _)))
            have hle := pSg_le hs
            refine go173 τ5 p' es3 kd v true (by omega) (S5.wk (by omega) (by omega)) (G34.tr G5 (fun _ z => z) (Nat.zero_le _)) ?_
            rw [ep, hsq, hs]
          · have hsq : pSq t n p1 = .inr (p1, false, 0) := by
              unfold pSq
              rw [if_neg n16]
            refine go173 τ3 p1 es3 kd 0 false hp1 S3 G3 ?_
            rw [ep, hsq]
        refine S_X23_specs_100 S2.fx (rs_is (y := 8) (by decide) (by omega) S2 (fun h8 => ⟨fun z => absurd z (by decide), fun _ => ?_⟩) (fun n8 => ⟨fun _ => ?_, fun z => absurd rfl z⟩))
        · have hp8 : nxS t n p < n := ty_pos (t := t) (by omega)
          have hg8 := nxS_gt (t := t) hp8
          have hnx8 := nxS_le t (n := n) (p := nxS t n p) (by omega)
          have hskE : pSk t n env (nxS t n p) = if tyS t n (nxS t n (nxS t n p)) = 2 then .inr (nxS t n (nxS t n (nxS t n p)), (if env.1 (nmS t n (nxS t n (nxS t n p))) = none then [(nxS t n (nxS t n p), 3)] else []), idx (env.1 (nmS t n (nxS t n (nxS t n p))))) else .inl (nxS t n (nxS t n p)) := by
            unfold pSk
            rw [if_pos h8]
          refine rs_next hZ (by omega) S2 hp8 (fun τ3 S3 G3 => ?_)
          have G23 := G2.tr G3 (fun _ z => z) (Nat.zero_le _)
          refine rs_name hZ (by omega) S3 (fun h2 hq2 hl2 τ4 S4 G4 => ?_) (fun n2 τ4 a w => h0 _ (by rw [ep, hskE, if_neg n2]) τ4 a ((w.wm).tr G23.mf (fun _ z => z.elim) (Nat.le_refl _)))
          rw [if_pos h2] at hskE
          have hg9 := nxS_gt (t := t) (n := n) (p := nxS t n (nxS t n p)) (ty_pos (t := t) (by omega))
          have G24 := G23.tr G4 (fun _ z => z) (Nat.zero_le _)
          refine rs_kind (by omega) S4 hq2 hl2 ?_
          have enm2 : txN t (nxS t n (nxS t n p)) (lnS t n (nxS t n (nxS t n p))) = nmS t n (nxS t n (nxS t n p)) := rfl
          rw [enm2]
          have enk : ∀ j, env.1 (nmS t n (nxS t n (nxS t n p))) = some j → j < 24 := by
            intro j hj
            obtain ⟨ks, cs, ls, ⟨k1, k2, k3, k4, k5⟩, -⟩ := S4.en
            rw [k4] at hj
            have := fi_lt hj
            omega
          cases hk : env.1 (nmS t n (nxS t n (nxS t n p))) with
          | some j =>
            have k24 := enk j hk
            rw [hk] at hskE
            refine ⟨fun _ => go150 τ4 (nxS t n (nxS t n (nxS t n p))) [] j (by omega) (by rw [hskE, if_neg (by intro z; cases z)]; rfl) (by rw [List.append_nil]; exact S4.wk (by omega) (by omega)) G24, fun z => absurd ((oN_le (a := 0) (by omega) (by omega)).mpr (Nat.zero_le j)) z⟩
          | none =>
            rw [hk] at hskE
            refine ⟨fun z => absurd z (by decide), fun _ => ?_⟩
            rw [S3.cur.2.1]
            refine rs_breaks (r := 3) (by omega) (by omega) (by decide) S4 (fun τ5 S5 G5 => ?_)
            rw [List.append_assoc] at S5
            exact go150 τ5 (nxS t n (nxS t n (nxS t n p))) [(nxS t n (nxS t n p), 3)] (-1) (by omega) (by rw [hskE, if_pos rfl]; rfl) (S5.wk (by omega) (by omega)) (G24.tr G5 (fun _ z => z) (Nat.zero_le _))
        · refine go150 τ2 (nxS t n p) [] 0 (Nat.le_refl _) (by unfold pSk; rw [if_neg n8]) (by rw [List.append_nil]; exact S2) G2
      -- the variables that are there
      have lp : ∀ j k2 (τ2 : Sg), vs.length - k2 = j → k2 ≤ vs.length → RS t n N env B τ2 (nxS t n p) c 0 vs (E ++ (es1 ++ dupK (vsN t vs) (nmS t n p) p k2)) m lst cap (u - 2) → RF N vs.length σ τ2 lst cap lst cap (fun _ => False) → B_X23_specs_33 Z (d + 1) τ2 M (Int32.ofNat places) (Int32.ofNat k) (Int32.ofNat p) (Int32.ofNat (32 * p + lnS t n p)) (Int32.ofNat k2) K := by
        intro j
        induction j with
        | zero =>
          intro k2 τ2 hj hk2 S2 G2
          have e : k2 = vs.length := by omega
          subst e
          refine S_X23_specs_33 S2.fx ⟨fun _ => ⟨fun h3 => ?_, fun h3 => ?_⟩, fun z => absurd (by rw [S2.vr.1]; exact Int32.le_refl _) z⟩
          · rw [S2.vr.1] at h3
            have := (oN_le (a := 3) (by omega) (by omega)).mp h3
            refine go100 τ2 vs _ rfl (by rw [hvl, if_neg (by omega)]) (by rw [hvl]; exact S2) (G2.wk (fun _ z => z) (Nat.zero_le _))
          · rw [S2.vr.1] at h3 ⊢
            have h3' : vs.length < 3 := Nat.lt_of_not_le fun z => h3 ((oN_le (a := 3) (by omega) (by omega)).mpr z)
            refine ⟨ib_oN (by omega) (by decide), ?_⟩
            rw [oN_t (by omega), oN_1]
            obtain ⟨S3, G3⟩ := S2.var (q := p) (l := lnS t n p) (by omega) hq hl
            refine go100 _ (vs ++ [(p, lnS t n p)]) _ rfl (by rw [hvl, if_pos h3']; exact vsN_snoc t vs (p, lnS t n p)) (by rw [hvl]; exact S3) ((G2.tr G3 (fun _ z => z) (Nat.le_refl _)).wk (fun _ z => z) (Nat.zero_le _))
        | succ j ihj =>
          intro k2 τ2 hj hk2 S2 G2
          obtain ⟨x, hx⟩ : ∃ x, vs[k2]? = some x := ⟨_, List.getElem?_eq_getElem (by omega)⟩
          obtain ⟨x1, x2, x3⟩ := S2.vr.2 k2 x hx
          have hnm : (vsN t vs)[k2]? = some (txN t x.1 x.2) := by
            unfold vsN
            rw [List.getElem?_map, hx]
            rfl
          refine S_X23_specs_33 S2.fx ⟨fun z => ?_, fun _ => ⟨ib_oN (by omega) (by decide), ?_⟩⟩
          · rw [S2.vr.1] at z
            have := (oN_le (by omega) (by omega)).mp z
            omega
          · rw [oN_t (by omega), x1]
            obtain ⟨d, rfl⟩ : ∃ e, d = e + 1 := ⟨d - 1, by omega⟩
            refine rf_isSame S2.fx S2.tx.2.2.1 x2 x3 hq hl (fun he => ⟨fun z => absurd z (by decide), fun _ => ?_⟩) (fun he => ⟨fun _ => ?_, fun z => absurd rfl z⟩)
            · refine rs_breaks (r := 2) (by omega) (by omega) (by decide) S2 (fun τ3 S3 G3 => ?_)
              rw [oN_1]
              refine ihj (k2 + 1) τ3 (by omega) (by omega) ?_ (G2.tr G3 (fun _ z => z) (Nat.le_refl _))
              rw [dupK_succ, if_pos (by rw [hnm, he]; rfl), ← List.append_assoc, ← List.append_assoc]
              rw [← List.append_assoc] at S3
              exact S3
            · rw [oN_1]
              refine ihj (k2 + 1) τ2 (by omega) (by omega) ?_ G2
              rw [dupK_succ, if_neg (by rw [hnm]; exact fun z => he (Option.some.inj z)), List.append_nil]
              exact S2
      exact lp vs.length 0 τ1 (by omega) (Nat.zero_le _) (by show RS t n N env B τ1 _ c 0 vs (E ++ (es1 ++ [])) m lst cap _; rw [List.append_nil]; exact S1) G1
    have epn : tyS t n p ≠ 2 → pSp t n env places (f + 1) p k (vsN t vs) es acc = .inl p := fun z => by rw [pSp, if_neg z]
    refine S_X23_specs_2 S.fx ⟨fun hle => ?_, fun hgt => ⟨fun hne => ?_, fun heq => ?_⟩⟩
    · have hm0 : places = 0 := by
        have := (oN_le (b := 0) (by omega) (by omega)).mp hle
        omega
      rw [S.cur.2.1]
      exact rs_name hZ (by omega) S (fun h2 hq hl τ1 S1 G1 => go33 τ1 es (by rw [if_neg (by omega), List.append_nil]) h2 hq hl S1 G1) (fun n2 τ1 a w => h0 _ (epn n2) τ1 a w.wm)
    · rw [S.cur.2.1]
      exact rs_name hZ (by omega) S (fun h2 hq hl τ1 S1 G1 => go33 τ1 es (by rw [if_neg (fun z => hne (by rw [z.2])), List.append_nil]) h2 hq hl S1 G1) (fun n2 τ1 a w => h0 _ (epn n2) τ1 a w.wm)
    · have hkp := (oN_eq (by omega) (by omega)).mp heq
      have hm0 : 0 < places := Nat.pos_of_ne_zero fun z => hgt (by rw [z]; exact Int32.le_refl _)
      rw [S.cur.2.1]
      refine rs_breaks (r := 4) (by omega) (by omega) (by decide) S (fun τ1 S1 G1 => ?_)
      rw [List.append_assoc] at S1
      exact rs_name hZ (by omega) S1 (fun h2 hq hl τ2 S2 G2 => go33 τ2 _ (by rw [if_pos ⟨hm0, hkp⟩]) h2 hq hl S2 (G1.tr G2 (fun _ z => z) (Nat.le_refl _))) (fun n2 τ2 a w => h0 _ (epn n2) τ2 a ((w.wm).tr G1.mf (fun _ z => z.elim) (Nat.le_refl _)))
end SPEC2

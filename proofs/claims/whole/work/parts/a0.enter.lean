/-! THE REFERENCE: enter() -/
theorem cs_79 {a k : Nat} (h : a = 2179 ∨ a = 2180) : ΦR.cst a k = false := by
  show cstR a k = false
  have h1 : sh0R[2179]? = some (Sh.arr 13 42) ∨ sh0R[2179]? = some (Sh.arr 6 42) := by decide +kernel
  have h2 : sh0R[2180]? = some (Sh.arr 13 42) ∨ sh0R[2180]? = some (Sh.arr 6 42) := by decide +kernel
  unfold cstR
  rcases h with rfl | rfl
  · rcases h1 with q | q <;> rw [q] <;> rfl
  · rcases h2 with q | q <;> rw [q] <;> rfl
section ENTER
variable {Z : zT} {W : Wld} {lst : List Nat} {b wy ch fuel dp cn nv : Nat} {σ τ : Sg} {K : kS}
theorem EvF.fewer {cn' : Nat} (h : EvF dp cn' nv σ τ) (hc : cn ≤ cn') : EvF dp cn nv σ τ := ⟨h.1, h.2.1, fun a k q => h.2.2.1 a k (fun z => q (by unfold evE at z ⊢; omega)), h.2.2.2⟩
theorem CcS.keep {X c : Nat} {R : Nat → List Nat × Bool} (h : CcS σ X c R) (e : ∀ a k, X ≤ a → a < X + 8 → τ.i a k = σ.i a k) : CcS τ X c R := by
  refine ⟨(e X 0 (Nat.le_refl _) (by omega)).trans h.1, fun role hr => ?_⟩
  obtain ⟨h1, h2, h3⟩ := h.2 role hr
  exact ⟨(e _ _ (by omega) (by omega)).trans h1, fun i y hy => (e _ _ (by omega) (by omega)).trans (h2 i y hy), (e _ _ (by omega) (by omega)).trans h3⟩
theorem CcS.ev {j c : Nat} {R : Nat → List Nat × Bool} (hj : j < cn) (g : EvF dp cn nv σ τ) (h : CcS σ (2981 + 8 * j) c R) : CcS τ (2981 + 8 * j) c R := h.keep fun a k h1 h2 => g.2.2.1 a k (fun z => by unfold evE at z; omega)
/-- enter() follows en -/
def EnH (Z : zT) (W : Wld) (lst : List Nat) (b wy ch fuel dp cn D : Nat) (en : Ef) : Prop := ∀ (d nv role i j c : Nat) (R : Nat → List Nat × Bool) (args : List Int64) (l1 l2 l3 : Int64) (on : List Nat) (S : Es) (σ : Sg) (K : kS), D ≤ d → role < 4 → i < (R role).1.length → RwG W c R → c < W.2.1.length → j < cn → args.length = plW W.2.1 c → (∀ x ∈ args, VlG W x) → ArG args l1 l2 l3 → EvA W lst b wy ch fuel dp cn (fun σ => CcS σ (2981 + 8 * j) c R) on [] S σ → S.2.2.2.1 ≤ S.1 → EvK W lst b wy ch fuel dp cn nv on σ (en (c, R) role i args on S) K → B_X23_enter_0 Z d σ (2981 + 8 * j) (Int32.ofNat role) (Int32.ofNat i) l1 l2 l3 K
/-- the frame of a method that runs -/
def FrE (dp X c m i : Nat) (R : Nat → List Nat × Bool) (σ : Sg) : Prop := (σ.r 2179 dp = Rf.ptr (2497 + 4 * m) ∧ σ.r 2180 dp = Rf.ptr X ∧ σ.i 2181 dp = Int32.ofNat i) ∧ CcS σ X c R
theorem FrE.ev {j c m i : Nat} {R : Nat → List Nat × Bool} (hj : j < cn) (g : EvF dp cn nv σ τ) (h : FrE dp (2981 + 8 * j) c m i R σ) : FrE dp (2981 + 8 * j) c m i R τ := ⟨⟨(g.2.1 _ _ (by omega) (by omega)).trans h.1.1, (g.2.1 _ _ (by omega) (by omega)).trans h.1.2.1, (g.2.2.1 _ _ (fun z => by unfold evE at z; omega)).trans h.1.2.2⟩, CcS.ev hj g h.2⟩
theorem FrE.wl {X c m i : Nat} {R : Nat → List Nat × Bool} {v : Int64} (h : FrE dp X c m i R σ) : FrE dp X c m i R (σ.wl 0 68 v) := h
/-- a frame made -/
def UpF (dp cn : Nat) (σ τ : Sg) : Prop := τ.sh = σ.sh ∧ (∀ a k, ¬ (a = 0 ∧ k = 51) → ¬ ((a = 2179 ∨ a = 2180) ∧ dp < k) → τ.r a k = σ.r a k) ∧ (∀ a k, ¬ evE dp cn a k → ¬ (a = 0 ∧ k = 87) → τ.i a k = σ.i a k) ∧ ∀ a k, ¬ (a = 2136 + 1 + (dp + 1)) → τ.l a k = σ.l a k
/-- the method has come to its end -/
theorem EvT.up {nv' : Nat} {on : List Nat} {σ2 : Sg} {r : Rs × Es} (hdp : dp + 1 ≤ 24) (h87 : σ.i 0 87 = Int32.ofNat dp) (hcn : cn ≤ dp + 1) (U : UpF dp cn σ σ2) (h : EvT W lst b wy ch fuel (dp + 1) cn nv' on σ2 τ r) : EvT W lst b wy ch fuel dp cn nv on σ (τ.wi 0 87 (τ.i 0 87 - (1 : Int32))) r := by
  obtain ⟨⟨g1, g2, g3, g4⟩, h2, h3, h4, h5⟩ := h
  obtain ⟨u1, u2, u3, u4⟩ := U
  have e87 : τ.i 0 87 - 1 = Int32.ofNat dp := by
    rw [h3.1.1, oN_p1 (by omega)]
    rfl
  rw [e87]
  refine ⟨⟨g1.trans u1, fun a k q1 q2 => (g2 a k q1 (fun z => q2 ⟨z.1, by omega⟩)).trans (u2 a k q1 q2), fun a k q => ?_, fun a k q => ?_⟩, h2.sm (SmW.wi0 (by decide)) h2.1.1, ?_, h4, ?_⟩
  · by_cases z : a = 0 ∧ k = 87
    · obtain ⟨rfl, rfl⟩ := z
      rw [wi_eq, h87]
    · rw [wi_ne z]
      exact (g3 a k (fun y => q (by unfold evE at y ⊢; omega))).trans (u3 a k q z)
  · show τ.l a k = σ.l a k
    exact (g4 a k (fun y => q (by unfold evL at y ⊢; omega))).trans (u4 a k (fun y => q (by unfold evL; omega)))
  · obtain ⟨a1, a2, a3, a4, a5, ⟨a6, a7, a8⟩, a9, b1, b2⟩ := h3
    exact ⟨⟨wi_eq, by omega⟩, ⟨(wi_ne (by decide)).trans a2.1, hcn⟩, a3, (wi_ne (by decide)).trans a4, (wi_ne (by decide)).trans a5, ⟨(wi_ne (by decide)).trans a6, a7, fun i x hx => (wi_ne (by omega)).trans (a8 i x hx)⟩, (wi_ne (by decide)).trans a9, b1, fun i x hx => (wi_ne (by omega)).trans (b2 i x hx)⟩
  · rcases r with ⟨v | v | v, S⟩
    · exact h5
    · exact h5
    · exact ⟨⟨(wi_ne (by decide)).trans h5.1.1, h5.1.2⟩, h5.2⟩
theorem en_c168 {d l1 l10 q : Nat} {l3 : Int32} {l4 l6 l8 : Int64} {y : String} (hy : y = "DispatchHouseModel$Failed" ∨ y = "DispatchHouseModel$Ended") (w : B_X23_enter_168 Z (d + 1) σ q K) : bS ΦR (hb_Gz Z.1 (some Z.2)) hb_GT d (mX23_enter, [(144, 155, 168, 0), (168, 170, 168, 0)]) 150 [(0, .ref 0), (1, .ref l1), (3, .int l3), (4, .long l4), (6, .long l6), (8, .long l8), (10, .ref l10)] K (.inr (y, q)) σ := by
  refine bS_c (hp := 168) (by rcases hy with rfl | rfl <;> decide +kernel) (ab_fin.lv ⟨?_, by show ([0, 1, 3, 4, 6, 8, 10] : List Nat).Nodup; decide⟩ w)
  intro x hx
  simp only [List.mem_cons, List.not_mem_nil, or_false] at hx ⊢
  rcases hx with rfl
  simp
theorem en_fin {d l1 l10 nv' : Nat} {l3 : Int32} {l4 l6 l8 : Int64} {on : List Nat} {σ2 : Sg} {r : Rs × Es} (hdp : dp + 1 ≤ 24) (h87 : σ.i 0 87 = Int32.ofNat dp) (hcn : cn ≤ dp + 1) (U : UpF dp cn σ σ2) (hK : EvK W lst b wy ch fuel dp cn nv on σ r K) : EvK W lst b wy ch fuel (dp + 1) cn nv' on σ2 r (yL (bS ΦR (hb_Gz Z.1 (some Z.2)) hb_GT d (mX23_enter, [(144, 155, 168, 0), (168, 170, 168, 0)]) 150 [(0, .ref 0), (1, .ref l1), (3, .int l3), (4, .long l4), (6, .long l6), (8, .long l8), (10, .ref l10)] K) fun v τ => K (.inl (some (.long v))) (τ.wi 0 87 ((τ.i 0 87) - (1 : Int32)))) := by
  intro τ q
  have F := q.2.1.1.1
  have hq := hK _ (q.up (nv := nv) hdp h87 hcn U)
  rcases r with ⟨v | v | v, S⟩
  · exact hq
  · exact en_c168 (Or.inl rfl) (S_X23_enter_168 F ⟨_, (fx_at F).1, hq⟩)
  · exact en_c168 (Or.inr rfl) (S_X23_enter_168 F ⟨_, (fx_at F).2, hq⟩)
theorem bdM_x {ms : List (Mtd × Bool)} {m : Nat} (h1 : 1 ≤ m) (h2 : m ≤ ms.length) : ∃ x, ms[m - 1]? = some x ∧ bdM ms m = x.1.2.2.2.2.2.1 ∧ mcW ms m = x.1.1.toNat := by
  have e : ms[m - 1]? = some ms[m - 1] := List.getElem?_eq_getElem (by omega)
  refine ⟨_, e, ?_, ?_⟩
  · unfold bdM
    rw [e]
    rfl
  · unfold mcW
    rw [e]
/-- what a world must be for its methods to run -/
def RnW (W : Wld) : Prop := WfW W ∧ NdW W ∧ (∀ x ∈ W.2.2.2, eH x.1.2.2.2.2.2.1 ≤ 39) ∧ 1 ∈ mkW W.1 ∧ 2 ∈ mkW W.1
theorem rf_enter {k D : Nat} (hdp : dp + (k + 1) = 24) (hW : RnW W) (hD : 10 ≤ D)
    (hcl : ∀ Fr : Sg → Prop, (∀ nv σ τ, EvF (dp + 1) cn nv σ τ → Fr σ → Fr τ) → ClH Z W lst b wy ch fuel (dp + 1) cn D (clR W wy ch (enK W wy ch fuel k)) Fr)
    (hfu : ∀ j c m i R, j < cn → c < W.2.1.length → RwG W c R → (1 ≤ m ∧ m ≤ W.2.2.2.length) → i < 120 → FuH Z W lst b wy ch fuel (dp + 1) cn D (plW W.2.1 c) (fuR W (enK W wy ch fuel k) (c, R) (rlM W.2.2.2 m) i) (FrE (dp + 1) (2981 + 8 * j) c m i R)) : EnH Z W lst b wy ch fuel dp cn (D + 41) (enK W wy ch fuel (k + 1)) := by
  intro d nv role i j c R args l1 l2 l3 on S σ K hd hr hi hR hc hj ha hav hG A hb hK
  obtain ⟨d, rfl⟩ : ∃ e, d = e + 1 := ⟨d - 1, by omega⟩
  have hcn := A.2.1.2.1.2
  have h120 := A.1.1.2.2.1.2
  obtain ⟨hWf, hNd, hHt, hmk⟩ := hW
  have hpl := plW_ok hWf.2.1 hc
  obtain ⟨m, hm⟩ : ∃ m, (R role).1[i]? = some m := ⟨_, List.getElem?_eq_getElem hi⟩
  have hmg : (R role).1.getD i 0 = m := by rw [List.getD_eq_getElem?_getD, hm]; rfl
  obtain ⟨⟨m1, m2⟩, m3⟩ := (hR role).2 m (List.mem_of_getElem? hm)
  have hi120 := (hR role).1
  have e0 : σ.i (2981 + 8 * j + 1 + 1 + role) i = Int32.ofNat m := (A.2.2.2.1.2 role hr).2.1 i m hm
  have e3 : σ.i (2497 + 4 * m) 3 = Int32.ofNat m := (A.1.1.mt hWf m1 m2).2.1.2
  have pX : sh0R[2981 + 8 * j]? = some (Sh.obj 15) := kE_2129 (by omega)
  have pM : sh0R[2497 + 4 * m]? = some (Sh.obj 19) := kE_3 (by omega)
  obtain ⟨x, hx, bx, cx⟩ := bdM_x m1 m2
  have hxm := List.mem_of_getElem? hx
  obtain ⟨r87, r70, r68, r80, r84, ⟨r85, r85', r85''⟩, r86, r86', r86''⟩ := A.2.1
  have hfl := A.2.2.2.2
  have hf5 := A.1.2.2.2.2.1.2
  have hbg : S.2.2.2.1 ≤ 100000 := by omega
  rw [show enK W wy ch fuel (k + 1) (c, R) role i args on S = ev W fuel (plW W.2.1 c) (clR W wy ch (enK W wy ch fuel k)) (fuR W (enK W wy ch fuel k) (c, R) (rlM W.2.2.2 ((R role).1.getD i 0)) i) (bdM W.2.2.2 ((R role).1.getD i 0)) false 0 args on (S.1, S.2.1, S.2.2.1, S.2.2.2.1 + 1, if S.2.2.2.1 < 512 then S.2.2.2.2 ++ [(R role).1.getD i 0] else S.2.2.2.2) from rfl, hmg] at hK
  have key : ∀ σ1 : Sg, σ1.sh = σ.sh → σ1.r = σ.r → σ1.l = σ.l → (∀ a y, a ≠ 2135 → σ1.i a y = σ.i a y) → (∀ (i x : Nat), (if S.2.2.2.1 < 512 then S.2.2.2.2 ++ [m] else S.2.2.2.2)[i]? = some x → σ1.i 2135 i = Int32.ofNat x) → B_X23_enter_54 Z (d + 1) σ1 (2981 + 8 * j) (Int32.ofNat i) l1 l2 l3 (2497 + 4 * m) K := by
    intro σ1 s1 s2 s3 s4 s5
    have F1 : FX ΦR σ1.sh σ1.r := by rw [s1, s2]; exact A.fx
    have w1 : SmW σ σ1 := ⟨s1, fun a _ => by rw [s2], fun a _ q => funext fun y => s4 a y (by omega), fun y _ => s4 0 y (by decide), fun a _ _ => by rw [s3]⟩
    refine S_X23_enter_54 F1 pX pM ?_
    rw [s4 0 87 (by decide), r87.1, oN_1, oN_t (by omega), s4 0 86 (by decide), r86, oN_1]
    refine ⟨ib_oN (by omega) (by decide), ib_oN (by omega) (by decide), ib_oN (by omega) (by decide), ib_oN (by omega) (by decide), ib_oN (by omega) (by decide), ib_oN (by omega) (by decide), ?_⟩
    obtain ⟨σ2, hσ2⟩ : ∃ y, y = ((((((((σ1.wi 0 86 (Int32.ofNat (S.2.2.2.1 + 1))).wi 0 87 (Int32.ofNat (dp + 1))).wl (2136 + 1 + (dp + 1)) 0 l1).wl (2136 + 1 + (dp + 1)) 1 l2).wl (2136 + 1 + (dp + 1)) 2 l3).wr 2179 (dp + 1) (Rf.ptr (2497 + 4 * m))).wr 2180 (dp + 1) (Rf.ptr (2981 + 8 * j))).wi 2181 (dp + 1) (Int32.ofNat i)) := ⟨_, rfl⟩
    have F2 : FX ΦR σ2.sh σ2.r := by
      rw [hσ2]
      exact FX.w (FX.w F1 (cs_79 (Or.inl rfl))) (cs_79 (Or.inr rfl))
    have w2 : SmW σ1 σ2 := by
      rw [hσ2]
      exact (((((((SmW.wi0 (by decide)).tr (SmW.wi0 (by decide))).tr (SmW.wl (by omega))).tr (SmW.wl (by omega))).tr (SmW.wl (by omega))).tr (SmW.wr (by decide))).tr (SmW.wr (by decide))).tr (SmW.wi (by decide))
    have i2 : ∀ a y, ¬ (a = 0 ∧ (y = 86 ∨ y = 87)) → ¬ (a = 2181 ∧ y = dp + 1) → σ2.i a y = σ1.i a y := fun a y q1 q2 => by
      rw [hσ2]
      exact (wi_ne q2).trans ((wi_ne (fun z => q1 ⟨z.1, Or.inr z.2⟩)).trans (wi_ne (fun z => q1 ⟨z.1, Or.inl z.2⟩)))
    have l2' : ∀ a y, ¬ (a = 2136 + 1 + (dp + 1)) → σ2.l a y = σ1.l a y := fun a y q => by
      rw [hσ2]
      exact (wl_ne (fun z => q z.1)).trans ((wl_ne (fun z => q z.1)).trans (wl_ne (fun z => q z.1)))
    have r2' : ∀ a y, ¬ ((a = 2179 ∨ a = 2180) ∧ y = dp + 1) → σ2.r a y = σ1.r a y := fun a y q => by
      rw [hσ2]
      exact (wr_ne (fun z => q ⟨Or.inr z.1, z.2⟩)).trans (wr_ne (fun z => q ⟨Or.inl z.1, z.2⟩))
    have U : UpF dp cn σ σ2 := ⟨w2.1.trans s1, fun a y q1 q2 => (r2' a y (fun z => q2 ⟨z.1, by omega⟩)).trans (by rw [s2]), fun a y q1 q2 => (i2 a y (fun z => by unfold evE at q1; omega) (fun z => q1 (by unfold evE; omega))).trans (s4 a y (fun z => q1 (by unfold evE; omega))), fun a y q => (l2' a y q).trans (by rw [s3])⟩
    have C2 : CcS σ2 (2981 + 8 * j) c R := CcS.keep A.2.2.2.1 fun a y h1 h2 => (i2 a y (by omega) (by omega)).trans (s4 a y (by omega))
    have Fr2 : FrE (dp + 1) (2981 + 8 * j) c m i R σ2 := by
      refine ⟨⟨?_, ?_, ?_⟩, C2⟩
      · rw [hσ2]
        show (Sg.wr (Sg.wr _ 2179 (dp + 1) _) 2180 (dp + 1) _).r 2179 (dp + 1) = _
        rw [wr_r, if_neg (by omega), wr_r, if_pos ⟨rfl, rfl⟩]
      · rw [hσ2]
        show (Sg.wr _ _ _ _).r _ _ = _
        rw [wr_r, if_pos ⟨rfl, rfl⟩]
      · rw [hσ2]
        exact wi_eq
    have W2 : WrS W lst b wy ch fuel σ2 := (A.1.sm w1 F1).sm w2 F2
    have T2 : TrN σ2 (Rg lst 0 b) x.1.2.2.2.2.2.1 (σ2.r (2497 + 4 * m) 9) := by
      have := (W2.1.2.2.2.1 (m - 1) x hx).2.2.2.2.2.2.2.2.2
      rw [show 2501 + 4 * (m - 1) = 2497 + 4 * m by omega] at this
      exact this
    have V2 : VaS W (dp + 1) args σ2 := by
      intro i' y hy
      have hi' := (List.getElem?_eq_some_iff.mp hy).1
      refine ⟨?_, hav y (List.mem_of_getElem? hy)⟩
      have hG' : args[i']? = [l1, l2, l3][i']? := by
        rw [hG, List.getElem?_take, if_pos hi']
      rw [hG'] at hy
      have : i' = 0 ∨ i' = 1 ∨ i' = 2 := by omega
      rcases this with rfl | rfl | rfl
      · have hy : some l1 = some y := hy
        obtain rfl := Option.some.inj hy
        rw [hσ2]
        exact (wl_ne (by omega)).trans ((wl_ne (by omega)).trans wl_eq)
      · have hy : some l2 = some y := hy
        obtain rfl := Option.some.inj hy
        rw [hσ2]
        exact (wl_ne (by omega)).trans wl_eq
      · have hy : some l3 = some y := hy
        obtain rfl := Option.some.inj hy
        rw [hσ2]
        exact wl_eq
    have ii : ∀ y, y ≠ 86 → y ≠ 87 → σ2.i 0 y = σ.i 0 y := fun y q1 q2 => (i2 0 y (by omega) (by omega)).trans (s4 0 y (by decide))
    have R2 : RnS (dp + 1) cn on (S.1, S.2.1, S.2.2.1, S.2.2.2.1 + 1, if S.2.2.2.1 < 512 then S.2.2.2.2 ++ [m] else S.2.2.2.2) σ2 := by
      refine ⟨⟨?_, by omega⟩, ⟨(ii 70 (by decide) (by decide)).trans r70.1, by omega⟩, ⟨(l2' 0 68 (by omega)).trans (by rw [s3]; exact r68.1), r68.2⟩, (ii 80 (by decide) (by decide)).trans r80, (ii 84 (by decide) (by decide)).trans r84, ⟨(ii 85 (by decide) (by decide)).trans r85, r85', fun i' y hy => ((i2 2134 i' (by omega) (by omega)).trans (s4 2134 i' (by decide))).trans (r85'' i' y hy)⟩, ?_, ?_, fun i' y hy => (i2 2135 i' (by omega) (by omega)).trans (s5 i' y hy)⟩
      · rw [hσ2]
        show (Sg.wi (Sg.wi (Sg.wi σ1 0 86 _) 0 87 _) 2181 (dp + 1) _).i 0 87 = _
        exact (wi_ne (by omega)).trans wi_eq
      · rw [hσ2]
        show (Sg.wi (Sg.wi (Sg.wi σ1 0 86 _) 0 87 _) 2181 (dp + 1) _).i 0 86 = _
        exact (wi_ne (by omega)).trans ((wi_ne (by omega)).trans wi_eq)
      · show (if S.2.2.2.1 < 512 then S.2.2.2.2 ++ [m] else S.2.2.2.2).length = min (S.2.2.2.1 + 1) 512
        split
        · rw [List.length_append, r86']
          show _ + 1 = _
          omega
        · rw [r86']
          omega
    obtain ⟨kk, w1', w2', -, -, -, -, -, -, wE⟩ := hWf.2.2 x hxm
    have ekk : kk = c := by
      rw [cx, w1'] at m3
      omega
    subst ekk
    have H := eh_all (Z := Z) (lst := lst) (b := b) (wy := wy) (ch := ch) (fuel := fuel) (dp := dp + 1) (cn := cn) (D := D) (pl := plW W.2.1 kk) (cl := clR W wy ch (enK W wy ch fuel k)) (fu := fuR W (enK W wy ch fuel k) (kk, R) (rlM W.2.2.2 m) i) (Fr := FrE (dp + 1) (2981 + 8 * j) kk m i R) (B := Rg lst 0 b) (fun _ _ _ g h => FrE.ev hj g h) (fun _ _ h => h) hD hWf.2.1 hmk (own := (kk : Int)) (hcl _ (fun _ _ _ g h => FrE.ev hj g h)) (fun _ => ⟨⟨hc, rfl⟩, hfu j kk m i R hj hc hR ⟨m1, m2⟩ (by omega)⟩) _ false _ wE (hNd x hxm)
    have E2 : EvA W lst b wy ch fuel (dp + 1) cn (FrE (dp + 1) (2981 + 8 * j) kk m i R) on args (S.1, S.2.1, S.2.2.1, S.2.2.2.1 + 1, if S.2.2.2.1 < 512 then S.2.2.2.2 ++ [m] else S.2.2.2.2) σ2 := ⟨W2, R2, V2, Fr2, hfl⟩
    have hHx := hHt x hxm
    rw [bx] at hK
    have fin := en_fin (Z := Z) (d := d) (l1 := 2981 + 8 * j) (l10 := 2497 + 4 * m) (l3 := Int32.ofNat i) (l4 := l1) (l6 := l2) (l8 := l3) (nv' := plW W.2.1 kk) (by omega) r87.1 (by omega) U hK
    have goal := H.1 rfl d 0 args on _ σ2 _ _ (by omega) ha (by omega) E2 T2 (by show S.2.2.2.1 + 1 ≤ S.1 + 1; omega) fin
    rw [hσ2] at goal
    exact goal
  refine S_X23_enter_0 A.fx ⟨fun _ => ⟨pX, ib_oN hr (by decide), ib_oN (by omega) (by decide), ?_⟩, fun q => absurd q ?_⟩
  · rw [oN_t (by omega), oN_t (by omega), e0]
    refine ⟨ib_oN (by omega) (by decide), ?_⟩
    rw [oN_t (by omega), r86, show (512 : Int32) = Int32.ofNat 512 from rfl, oN_le (by decide) (by omega)]
    refine ⟨fun q => key σ rfl rfl rfl (fun _ _ _ => rfl) (fun i' y hy => ?_), fun q => ⟨ib_oN (by omega) (by decide), key _ rfl rfl rfl (fun a y q => wi_ne (fun z => q z.1)) (fun i' y hy => ?_)⟩⟩
    · rw [if_neg (by omega)] at hy
      exact r86'' i' y hy
    · rw [oN_t (by omega), e3]
      rw [if_pos (by omega)] at hy
      by_cases z : i' < S.2.2.2.2.length
      · rw [List.getElem?_append_left z] at hy
        rw [wi_ne (by omega)]
        exact r86'' i' y hy
      · rw [List.getElem?_append_right (by omega)] at hy
        have h0 : i' = S.2.2.2.2.length := by
          have := (List.getElem?_eq_some_iff.mp hy).1
          have : i' - S.2.2.2.2.length < 1 := this
          omega
        subst h0
        rw [Nat.sub_self] at hy
        have hy : some m = some y := hy
        obtain rfl := Option.some.inj hy
        rw [wi_i, if_pos ⟨rfl, by omega⟩]
  · rw [r87.1, show (24 : Int32) = Int32.ofNat 24 from rfl, oN_eq (by omega) (by decide)]
    omega
/-- no more may be inside each other -/
theorem rf_enter0 {D : Nat} (hdp : dp = 24) (hW : RnW W) (hD : 3 ≤ D) : EnH Z W lst b wy ch fuel dp cn D (enK W wy ch fuel 0) := by
  intro d nv role i j c R args l1 l2 l3 on S σ K hd hr hi hR hc hj ha hav hG A hb hK
  obtain ⟨d, rfl⟩ : ∃ e, d = e + 3 := ⟨d - 3, by omega⟩
  refine S_X23_enter_0 A.fx ⟨fun q => absurd ?_ q, fun _ => EvK.flt A hb hW.2.2.2.2 hK⟩
  rw [A.2.1.1.1, hdp]
  rfl
end ENTER

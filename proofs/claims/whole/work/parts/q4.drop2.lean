/-! THE CLASS: drop, clear -/
section DROPC
variable {Z : zT} {d : Nat} {B : Nat × Nat × Nat × Nat × Nat} {C V V' : Nat × Nat × Nat × Nat} {a u u' A m ver a' : Nat} {W W' : Wld} {pg pg' : Ast} {t t' : Nat → Int32} {n n' wy ch ch' fuel fuel' rs : Nat} {rn rn' : Option (Rs × Es)} {res res' : List Nat} {q q' : Nat} {σ τ υ : Sg} {K : kS} {E : Nat → Prop} {S : Es} {e1 e2 : String}
/-- what writing in the world's own rows leaves -/
def WoF (σ τ : Sg) : Prop := τ.sh = σ.sh ∧ τ.r = σ.r ∧ (∀ b j, ¬ (1 ≤ b ∧ b ≤ 38) → b ≠ sqA σ → τ.i b j = σ.i b j) ∧ τ.i 1 15 = σ.i 1 15 ∧ ∀ b j, ¬ (34 ≤ b ∧ b ≤ 37) → τ.l b j = σ.l b j
/-- another world, told or dropped, is at rest -/
theorem ClX.wo (h : ClX B C V a u A m ver W pg t n wy ch fuel rs rn res q σ) (g : WoF σ τ) (cr : CRs B C W' a' τ) (ev : τ.i 1 16 = Int32.ofNat (ver + 1)) (hq : q ≤ 1000) (hn : NcS W' τ) (hf : ∀ j, j < 902 → τ.i C.2.1 j = σ.i C.2.1 j ∧ τ.i C.2.2.1 j = σ.i C.2.2.1 j ∧ τ.i C.2.2.2 j = σ.i C.2.2.2 j) : ClX B C V a' u A m (ver + 1) W' pg t n wy ch fuel rs rn res (q + 1) τ := by
  have F := h.fx
  have hl := F.len
  obtain ⟨k1, ⟨w1, w2⟩, ⟨⟨S0, k3⟩, k4, k5⟩, ⟨ne, wh⟩, ⟨v1, v2⟩, dj, ⟨r8, m256, tx, h9⟩, ⟨c1, c2, c3, c4⟩, ⟨h40, r1, r2⟩, ub, rm⟩ := id h
  obtain ⟨g1, g2, g3, g15, g4⟩ := g
  have gx : XF (fun b => (1 ≤ b ∧ b ≤ 38) ∨ b = sqA σ) σ τ := ⟨g1, g2, fun b z => ⟨funext fun j => g3 b j (by omega) (by omega), funext fun j => g4 b j (by omega)⟩⟩
  have esq : sqA τ = sqA σ := sqA_g (by rw [g2])
  have sq := ne.sq
  have djA := dj.2.2.2
  have gk : KpF (fun b => (1 ≤ b ∧ b ≤ 38) ∨ b = sqA σ) σ τ := ⟨⟨[], by rw [g1, List.append_nil]⟩, fun b k _ => by rw [g2], fun b _ z => ⟨funext fun j => g3 b j (by omega) (by omega), funext fun j => g4 b j (by omega)⟩⟩
  have ei : ∀ b, ¬ ((1 ≤ b ∧ b ≤ 38) ∨ b = sqA σ) → τ.i b = σ.i b := fun b z => funext fun j => g3 b j (by omega) (by omega)
  obtain ⟨-, -, -, -, s1, s2, s3, -⟩ := id k3.1
  have c24 := cr.1.2.2.2.2.2.1.2.1
  have hA := tx.2.2.2.2
  have l82 : τ.l 82 = σ.l 82 := funext fun j => g4 82 j (by omega)
  refine ⟨cr, ⟨g15.trans w1, w2⟩, ⟨⟨S0, k3.kp F gk (fun b _ z z' => by have := k4.2; unfold seE at z'; omega)⟩, k4.xf gx, k5.bump v1 (by omega) (ei 57 (by omega)) ev c24⟩, ⟨⟨fun i j hi hj => by rw [show τ.l (48 + 7) = σ.l 55 from funext fun x => g4 55 x (by omega)]; exact ne.1 i j hi hj, hn⟩, wh.bump v1 (by omega) (ei 68 (by omega)) l82 (funext fun j => g4 101 j (by omega)) ev c24⟩, ⟨ev, by omega⟩, ⟨dj.1, dj.2.eq esq⟩, ⟨by rw [g2]; exact r8, ⟨m256.1, fun k hk => by rw [ei A (by omega)]; exact m256.2 k hk⟩, tx.kp gk (by omega), by rw [ei 0 (by omega)]; exact h9⟩, ⟨⟨by rw [ei 0 (by omega)]; exact c1.1, c1.2⟩, ⟨by rw [ei 0 (by omega)]; exact c2.1, c2.2⟩, by rw [ei 0 (by omega)]; exact c3, fun z => ⟨(c4 z).1, fun j q hq => ?_⟩⟩, ⟨by rw [ei 40 (by omega)]; exact h40, r1.kp F gk (fun b _ z => by omega), r2.kp F gk (by rw [ei 0 (by omega)]) (fun b _ z => by omega)⟩, ?_, by rw [g1, sdN_g (ei 46 (by omega))]; exact rm.up⟩
  · have l1 := (c4 z).1
    have jl := (List.getElem?_eq_some_iff.mp hq).1
    rw [List.length_append, List.length_singleton] at jl
    obtain ⟨f0, f1, f2⟩ := hf (0 + j) (by omega)
    rw [f0, f1, f2]
    exact (c4 z).2 j q hq
  · have := upN_le τ
    omega
/-- stock is taken of another world -/
theorem SkF.cr {σ0 : Sg} (k1 : CRs B C W a σ0) (S : SkR C W' a' σ) (hj : WJ W'.2.1 σ) (g : SkF σ τ) (st : StS W' τ) (hs : σ.sh = σ0.sh) (hr : σ.r = σ0.r) (nm : NmS (W'.1.map (·.1)) 0 σ ∧ (W'.1.map (·.1)).Nodup) (cm : (σ.i 28 1 = Int32.ofNat W'.2.1.length) ∧ NmS (W'.2.1.map (·.1)) 24 σ ∧ (W'.2.1.map (·.1)).Nodup) (lm : σ.i 28 2 = Int32.ofNat W'.2.2.1.length ∧ W'.2.2.1.length ≤ 8 ∧ NmS W'.2.2.1 48 σ ∧ W'.2.2.1.Nodup) (ha : a' ≤ 902 + 901 * W'.2.2.2.length) (h28 : σ.i 28 3 = σ0.i 28 3) : CRs B C W' a' τ := by
  obtain ⟨g1, g2, g3, g4⟩ := g
  have F := k1.1.1
  have ei : ∀ b j, ¬ (b = 1 ∧ (j = 14 ∨ j = 16)) → b ≠ 38 → τ.i b j = σ.i b j := g3
  have er : ∀ b, b ≠ 1 → b ≠ 38 → τ.i b = σ.i b := fun b z1 z2 => funext fun j => g3 b j (by omega) z2
  have el : ∀ b, ¬ (34 ≤ b ∧ b ≤ 37) → τ.l b = σ.l b := fun b z => funext fun j => g4 b j z
  obtain ⟨s1, ⟨s2, s3, s4⟩, s5, ⟨s6, s7⟩, s8, s9, s10⟩ := S
  obtain ⟨-, sa, ca, ne, -⟩ := id k1.1
  obtain ⟨x, hx, ex⟩ := k1.2.2.2.2.2.2.2
  have sh' : τ.sh = σ0.sh := g1.trans hs
  have rr' : τ.r = σ0.r := g2.trans hr
  have nk : ∀ {ns : List (List Int32)} {o : Nat}, NmS ns o σ → NmS ns o τ := fun h k nm hk => by
    rw [el 29 (by omega), el 30 (by omega)]
    exact h k nm hk
  have k24 : W'.1.length ≤ 24 := s3
  have e28 := er 28 (by decide) (by decide)
  refine ⟨⟨by rw [g1, g2]; exact s1, ?_, ?_, ne, ⟨by rw [e28]; exact s2, s3, nk nm.1, nm.2, fun k x hx => ?_⟩, ⟨by rw [e28]; exact cm.1, s6, nk cm.2.1, cm.2.2, fun k x hx => ?_⟩, ⟨by rw [e28]; exact lm.1, lm.2.1, nk lm.2.2.1, lm.2.2.2⟩⟩, ?_, ?_, ?_, s9, st, ⟨k1.2.2.2.2.2.2.1.1, ha⟩, x, hx, by rw [e28, h28]; exact ex⟩
  · unfold SgA
    rw [sh', rr']
    exact sa
  · unfold CoA
    rw [sh', rr']
    exact ca
  · rw [er 3 (by decide) (by decide)]
    exact s4 k x hx
  · rw [er 31 (by decide) (by decide)]
    exact s7 k x hx
  · exact s5.keep k24 (fun k _ => ⟨by rw [er 4 (by decide) (by decide)], by rw [er 5 (by decide) (by decide)], fun w _ i _ => ⟨by rw [er 7 (by decide) (by decide)], by rw [er 8 (by decide) (by decide)]⟩⟩)
  · exact hj.keep (fun k _ => ⟨by rw [er 32 (by decide) (by decide)], by rw [er 33 (by decide) (by decide)]⟩)
  · obtain ⟨y1, y2, y3, ⟨y4, y5, y6⟩, y7⟩ := s8
    obtain ⟨z0, z1, z2⟩ := s10
    refine WMc.kp ⟨y1, y2, y3, ⟨y4, y5, y6⟩, y7⟩ (by rw [er 10 (by decide) (by decide)]) (by rw [er 24 (by decide) (by decide)]; exact y3) ⟨Nat.le_refl _, y5, y6⟩ (fun b j z => ?_) (fun b j z => ?_) (fun j _ _ => ?_)
    · unfold mtI at z
      exact ei b j (by omega) (by omega)
    · unfold mtL at z
      exact g4 b j (by omega)
    · rw [er C.2.1 (by omega) (by omega), er C.2.2.1 (by omega) (by omega), er C.2.2.2 (by omega) (by omega)]
      exact ⟨rfl, rfl, rfl⟩
theorem cc_drop {v : Int32} (h8 : 10 ≤ d) (hq : q ≤ 1000) (hW : PuW W) (h : ClA W pg t n wy ch fuel rs rn res q σ) (hK : CAns K (ClA (drO W v) pg t n wy ch fuel rs rn res (q + 1)) xIo xIo (match drA W v with | .inl th => .inl th | .inr b => .inr (if b = true then 1 else 0))) : C_X12_drop_0 Z (d + 1) σ v K := by
  have h0 := h
  have hu := h.up
  obtain ⟨d, rfl⟩ : ∃ e, d = e + 3 := ⟨d - 3, by omega⟩
  obtain ⟨B, C, V, a, u, A, m, ver, h⟩ := h
  have F := h.fx
  have hWf := hW.1.1
  have k1 := h.1
  obtain ⟨mm1, m120, m24, mcap, mm⟩ := k1.2.2.2.1
  unfold drA drO at hK
  have Q := h.qw hW.2.2.2.2
  refine T_X12_drop_0 F (by omega) ⟨fun z => ?_, fun z => ⟨fun z2 => ?_, fun z2 => ?_⟩⟩
  · rw [show (1 : Int32) = Int32.ofNat 1 from rfl, (i32_le_k v 1 (by decide)).2] at z
    rw [if_neg (by omega), if_neg (by omega)] at hK
    exact cc_1 h0 hK
  · rw [show (1 : Int32) = Int32.ofNat 1 from rfl, (i32_le_k v 1 (by decide)).2] at z
    rw [mm1, Int32.le_iff_toInt_le, oN_i (by omega)] at z2
    rw [if_pos (show 1 ≤ v.toInt ∧ v.toInt ≤ W.2.2.2.length by omega)] at hK
    refine cl_there h hWf (fun e => ⟨fun y => absurd rfl y, fun _ => ?_⟩) (fun e => ⟨fun _ => ?_, fun y => absurd y (by decide)⟩)
    · have gn : ¬ gnW W.2.2.2 v.toInt.toNat = 0 := fun y => by
        unfold thB at e
        rw [decide_eq_true (show 1 ≤ v.toInt by omega), decide_eq_true (show v.toInt ≤ W.2.2.2.length by omega), decide_eq_true y] at e
        exact absurd e (by decide)
      rw [if_neg (fun y => gn y.2.2)] at hK
      have hK : CAns K (ClA W pg t n wy ch fuel rs rn res (q + 1)) xIo xIo (.inr (if decide (gnW W.2.2.2 v.toInt.toNat = 0) = true then 1 else 0)) := hK
      rw [if_neg (by rw [decide_eq_true_iff]; exact gn)] at hK
      exact hK σ hu
    · obtain ⟨j, X, ev, en, hx, hg, k, hc1, hc2, hmc⟩ := thB_x hWf e
      have gn : gnW W.2.2.2 v.toInt.toNat = 0 := by
        rw [en]
        unfold gnW
        rw [Nat.add_sub_cancel, hx]
        dsimp only
        rw [hg]
        rfl
      rw [if_pos (show 1 ≤ v.toInt ∧ v.toInt ≤ W.2.2.2.length ∧ gnW W.2.2.2 v.toInt.toNat = 0 from ⟨by omega, by omega, gn⟩)] at hK
      have hK : CAns K (ClA (drW W v.toInt.toNat) pg t n wy ch fuel rs rn res (q + 1)) xIo xIo (.inr (if decide (gnW W.2.2.2 v.toInt.toNat = 0) = true then 1 else 0)) := hK
      rw [if_pos (decide_eq_true gn)] at hK
      have hK' : ∀ τ, ClA (drW W (j + 1)) pg t n wy ch fuel rs rn res (q + 1) τ → K (.inl (some (.int 1))) τ := by
        rw [en] at hK
        exact hK
      subst ev
      have jl := (List.getElem?_eq_some_iff.mp hx).1
      rw [oN_t (by omega)]
      refine ⟨ib_oN (by omega) (by decide), ?_⟩
      have D := hW.dr (j + 1)
      have gI : ∀ b i, ¬ (b = 11 ∧ i = j + 1) → (σ.wi 11 (j + 1) (-1)).i b i = σ.i b i := fun b i z => wi_ne z
      have er : ∀ b, b ≠ 11 → (σ.wi 11 (j + 1) (-1)).i b = σ.i b := fun b z => wi_row z
      have wm : WMc C a (drW W (j + 1)).2.2.2 (σ.wi 11 (j + 1) (-1)) := by
        have el : (drW W (j + 1)).2.2.2.length = W.2.2.2.length := List.length_modify ..
        obtain ⟨-, -, -, -, p0, p1, p2, -⟩ := id k1.1.2.2.1
        refine ⟨by rw [er 10 (by decide), el]; exact mm1, by rw [el]; exact m120, by rw [er 24 (by decide)]; exact m24, mcap, fun i x hx2 => ?_⟩
        have hx2 : (W.2.2.2.modify (j + 1 - 1) fun x => (x.1, true))[i]? = some x := hx2
        rw [Nat.add_sub_cancel, List.getElem?_modify] at hx2
        obtain ⟨y, hy, ey⟩ : ∃ y, W.2.2.2[i]? = some y ∧ x = (if j = i then (y.1, true) else y) := by
          cases hy : W.2.2.2[i]? with
          | none =>
            rw [hy] at hx2
            cases hx2
          | some y =>
            rw [hy] at hx2
            refine ⟨y, rfl, ?_⟩
            by_cases z : j = i
            · simp only [if_pos z] at hx2 ⊢
              exact (Option.some.inj hx2).symm
            · simp only [if_neg z] at hx2 ⊢
              exact (Option.some.inj hx2).symm
        have M := mm i y hy
        obtain ⟨t1, t2, t3, t4, ⟨t5, t5', t5'', t6, t7⟩, S, u1, u2, u3, u4⟩ := M
        have ex1 : x.1 = y.1 := by
          rw [ey]
          split <;> rfl
        refine ⟨?_, ?_, ?_, ?_, ?_, ?_⟩
        · by_cases z : j = i
          · rw [ey, if_pos z, if_pos rfl, ← z, wi_at]
          · rw [ey, if_neg z, gI 11 (i + 1) (by omega)]
            exact t1
        · rw [ex1, er 12 (by decide)]
          exact t2
        · rw [ex1, er 13 (by decide)]
          exact t3
        · rw [ex1]
          intro p hp
          obtain ⟨q1, q2, q3⟩ := t4 p hp
          exact ⟨by rw [er 15 (by decide)]; exact q1, by rw [er 16 (by decide)]; exact q2, by rw [er 17 (by decide)]; exact q3⟩
        · rw [ex1]
          refine ⟨by rw [er 18 (by decide)]; exact t5, t5', t5'', fun p l hl => (t6 p l hl).keep ⟨by rw [er 19 (by decide)], by rw [er 20 (by decide)], by rw [er 21 (by decide)], rfl⟩, t7⟩
        · rw [ex1]
          refine ⟨S, by rw [er 14 (by decide)]; exact u1, u2, u3, fun p q hq => ?_⟩
          rw [er C.2.1 (by omega), er C.2.2.1 (by omega), er C.2.2.2 (by omega)]
          exact u4 p q hq
      obtain ⟨⟨-, q2, q3, ⟨q4, q5⟩, -, -, q7⟩, qj, -⟩ := Q
      have SK : SkR C (drW W (j + 1)) a (σ.wi 11 (j + 1) (-1)) := ⟨F, ⟨by rw [er 28 (by decide)]; exact q2.1, q2.2.1, fun k x hx => by rw [er 3 (by decide)]; exact q2.2.2 k x hx⟩, q3.keep q2.2.1 (fun k _ => ⟨by rw [er 4 (by decide)], by rw [er 5 (by decide)], fun w _ i _ => ⟨by rw [er 7 (by decide)], by rw [er 8 (by decide)]⟩⟩), ⟨q4, fun k x hx => by rw [er 31 (by decide)]; exact q5 k x hx⟩, wm, D.1.1, q7⟩
      refine cl_stock SK (fun τ g st e16 => ?_)
      obtain ⟨-, -, -, -, ⟨k1', k2', k3', k4', k5'⟩, ⟨b1, b2, b3, b4, b5⟩, ⟨l1, l2, l3, l4⟩⟩ := id k1.1
      have cr := SkF.cr k1 SK (qj.keep (fun k _ => ⟨by rw [er 32 (by decide)], by rw [er 33 (by decide)]⟩)) g st rfl rfl ⟨k3', k4'⟩ ⟨by rw [er 28 (by decide)]; exact b1, b3, b4⟩ ⟨by rw [er 28 (by decide)]; exact l1, l2, l3, l4⟩ (by rw [show (drW W (j + 1)).2.2.2.length = W.2.2.2.length from List.length_modify ..]; exact k1.2.2.2.2.2.2.1.2) (by rw [er 28 (by decide)])
      obtain ⟨v1, v2⟩ := h.2.2.2.2.1
      obtain ⟨g1, g2, g3, g4⟩ := g
      obtain ⟨-, -, -, -, p0, p1, p2, -⟩ := id k1.1.2.2.1
      have sq := h.2.2.2.1.1.sq
      have wo : WoF σ τ := ⟨g1, g2, fun b i z z' => (g3 b i (by omega) (by omega)).trans (gI b i (by omega)), (g3 1 15 (by omega) (by omega)).trans (gI 1 15 (by omega)), fun b i z => g4 b i z⟩
      refine hK' τ ⟨B, C, V, a, u, A, m, ver + 1, h.wo wo cr ?_ hq ((h.2.2.2.1.1.2.gr (Gro.dr W (j + 1)) hWf).keep (by rw [g2]; rfl) ((g3 46 2 (by omega) (by omega)).trans (gI 46 2 (by omega))) (fun s hs => by rw [g1]; exact hs) (funext fun i => (g3 (sqA σ) i (by omega) (by omega)).trans (gI (sqA σ) i (by omega)))) (fun i hi => ?_)⟩
      · rw [e16, er 1 (by decide), v1, oN_1]
      · rw [g3 C.2.1 i (by omega) (by omega), g3 C.2.2.1 i (by omega) (by omega), g3 C.2.2.2 i (by omega) (by omega), er C.2.1 (by omega), er C.2.2.1 (by omega), er C.2.2.2 (by omega)]
        exact ⟨rfl, rfl, rfl⟩
  · rw [show (1 : Int32) = Int32.ofNat 1 from rfl, (i32_le_k v 1 (by decide)).2] at z
    rw [mm1, Int32.le_iff_toInt_le, oN_i (by omega)] at z2
    rw [if_neg (by omega), if_neg (by omega)] at hK
    exact cc_1 h0 hK
end DROPC

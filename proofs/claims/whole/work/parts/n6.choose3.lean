/-! THE CLASS: choose() -/
section CHOOSE3
variable {Z : zT} {d A u : Nat} {σ σ0 τ υ : Sg} {K : kS} {C : Nat × Nat × Nat × Nat} {V V' V2 : Nat × Nat × Nat × Nat} {W : Wld} {wy a0 gA c m n H ch lk : Nat} {k : Nat → Nat} {v : Nat → Int} {L on ap : List Nat} {S : List (Int64 × Int64)}
theorem SetC.xg {E : Nat → Prop} (Hs : SetC σ V u S) (h : XF E σ τ) (hE : ∀ a, E a → (47 ≤ a ∧ a ≤ 55) ∨ (67 ≤ a ∧ a ≤ 101)) : SetC τ V u S := by
  have A := Hs.1
  obtain ⟨-, -, -, -, p8, p9, p10, -⟩ := A
  have e : ∀ a, a = 56 ∨ a = V.2.1 ∨ a = V.2.2.1 ∨ a = V.2.2.2 → τ.i a = σ.i a ∧ τ.l a = σ.l a := fun a ha => h.2.2 a (fun q => by have := hE a q; omega)
  obtain ⟨A, h2, h3, h4, h5, h6⟩ := Hs
  unfold SetC
  rw [(e 56 (by omega)).1, (e V.2.2.2 (by omega)).1, (e V.2.1 (by omega)).2, (e V.2.2.1 (by omega)).2]
  exact ⟨A.xf h, h2, h3, h4, h5, h6⟩
theorem LqS.xg {E : Nat → Prop} (h : LqS C W wy a0 V u σ) (g : XF E σ τ) (hE : ∀ a, E a → (47 ≤ a ∧ a ≤ 55) ∨ (67 ≤ a ∧ a ≤ 101)) : LqS C W wy a0 V u τ ∧ upN τ = upN σ := by
  obtain ⟨h1, h2, ⟨S, h3⟩, h4⟩ := h
  have r : ∀ a, a < 47 ∨ (56 ≤ a ∧ a ≤ 66) → τ.i a = σ.i a ∧ τ.l a = σ.l a := fun a ha => g.2.2 a (fun q => by have := hE a q; omega)
  have e1 : τ.i 1 16 = σ.i 1 16 := by rw [(r 1 (by omega)).1]
  refine ⟨⟨h1.xf g (fun a q => by have := hE a q; omega), h2.xf g, ⟨S, h3.xg g hE⟩, h4.keep (r 57 (by omega)).1 e1 (r 62 (by omega)).1 (r 63 (by omega)).1 (r 58 (by omega)).2 (r 59 (by omega)).2 (r 60 (by omega)).2 (r 61 (by omega)).2⟩, upN_cg (r 57 (by omega)).1 e1⟩
theorem SeA.gn {E : Nat → Prop} (A : SeA σ V) (F : FX ΦC σ.sh σ.r) (g : GnF E σ τ) : SeA τ V := by
  have l100 : 101 < σ.sh.length := (List.getElem?_eq_some_iff.mp (F.s (a := 101) t0_101)).1
  obtain ⟨⟨r8, s8⟩, ⟨r9, s9⟩, ⟨r10, s10⟩, h⟩ := A
  exact ⟨⟨(g.2.1 56 8 (by omega) (by omega)).trans r8, g.sh s8⟩, ⟨(g.2.1 56 9 (by omega) (by omega)).trans r9, g.sh s9⟩, ⟨(g.2.1 56 10 (by omega) (by omega)).trans r10, g.sh s10⟩, h⟩
theorem LqS.he {X : Nat → Prop} (h : LqS C W wy a0 V u σ) (ne : NeS W σ) (ne' : NeS W τ) (g : NhE X σ τ) (hX : ∀ a, X a → 67 ≤ a ∧ a ≤ 101) : LqS C W wy a0 V u τ ∧ upN τ = upN σ := by
  obtain ⟨h1, h2, ⟨S, h3⟩, h4⟩ := h
  have st := ne.sq
  have r : ∀ a, a < 46 ∨ (56 ≤ a ∧ a ≤ 66) → τ.i a = σ.i a ∧ τ.l a = σ.l a := fun a ha => g.row h1.1.1 st ⟨by omega, fun z => by have := hX a z; omega⟩
  have e1 : τ.i 1 16 = σ.i 1 16 := by rw [(r 1 (by omega)).1]
  have A := h3.1
  have A' := A
  obtain ⟨⟨-, s8⟩, ⟨-, s9⟩, ⟨-, s10⟩, -, p8, p9, p10, -⟩ := A'
  have hl := g.1.len
  have e : ∀ a, a < σ.sh.length → (a = V.2.1 ∨ a = V.2.2.1 ∨ a = V.2.2.2) → τ.i a = σ.i a ∧ τ.l a = σ.l a := fun a hl ha => g.1.2.2 a hl (fun z => by
    rcases z with z | z
    · unfold neE at z
      have := h2.2
      omega
    · have := hX a z
      omega)
  refine ⟨⟨h1.he st g (fun a q => by have := hX a q; omega), ⟨fun a q => ?_, by have := h2.2; omega, ?_⟩, ⟨S, ?_⟩, h4.keep (r 57 (by omega)).1 e1 (r 62 (by omega)).1 (r 63 (by omega)).1 (r 58 (by omega)).2 (r 59 (by omega)).2 (r 60 (by omega)).2 (r 61 (by omega)).2⟩, upN_cg (r 57 (by omega)).1 e1⟩
  · have := h2.1 a q
    omega
  · have := h2.2
    have l8 := (List.getElem?_eq_some_iff.mp s8).1
    have l9 := (List.getElem?_eq_some_iff.mp s9).1
    have l10 := (List.getElem?_eq_some_iff.mp s10).1
    have := g.2.1
    have sl := ne'.sl
    omega
  · obtain ⟨-, q2, q3, q4, q5, q6⟩ := h3
    unfold SetC
    rw [(r 56 (by omega)).1, (e V.2.2.2 (List.getElem?_eq_some_iff.mp s10).1 (by omega)).1, (e V.2.1 (List.getElem?_eq_some_iff.mp s8).1 (by omega)).2, (e V.2.2.1 (List.getElem?_eq_some_iff.mp s9).1 (by omega)).2]
    exact ⟨A.gn h1.1.1 g.1, q2, q3, q4, q5, q6⟩
theorem NeS.lp (h : NeS W σ) (cv : CvN C V σ) (A : SeA σ V) (F : FX ΦC σ.sh σ.r) (g : LpF V V' σ τ) : NeS W τ := by
  have st := h.sq
  refine ⟨fun i j hi hj => ?_, h.2.keep (g.1.2.1 46 3 cv.2.1 (by omega)) (by rw [(LpF.row A F g (a := 46) (by omega)).1]) (fun s hs => g.1.sh hs) (g.1.2.2 _ cv.2.2.1 (fun z => by
    have := cv.2.2
    unfold seE at z
    omega)).1⟩
  rw [(LpF.row A F g (a := 55) (by omega)).2]
  exact h.1 i j hi hj
theorem SzG.szh {R R' : Nat} (h : SzG σ τ R R') (g : τ.i 46 = σ.i 46) : SzH σ τ R R' := by
  unfold SzG at h
  unfold SzH
  rw [sdN_g g]
  omega
/-- what choosing at home H may write -/
def ChF (H : Nat) (V V' : Nat × Nat × Nat × Nat) (σ τ : Sg) : Prop := GaF (fun a => seE V a ∨ neE σ a ∨ (57 ≤ a ∧ a ≤ 63) ∨ (84 ≤ a ∧ a ≤ 92) ∨ a = 101) σ τ ∧ (∀ j, j ≠ 4 → j ≠ 12 → τ.i 84 j = σ.i 84 j) ∧ ((∀ j, j < 128 * H ∨ 128 * H + 128 ≤ j → τ.i 85 j = σ.i 85 j) ∧ ∀ j, j < 4 * H ∨ 4 * H + 4 ≤ j → τ.i 86 j = σ.i 86 j ∧ τ.i 87 j = σ.i 87 j ∧ τ.i 88 j = σ.i 88 j) ∧ SzH σ τ V.1 V'.1 ∧ (V'.2.1 = V.2.1 ∨ σ.sh.length ≤ V'.2.1) ∧ (V'.2.2.1 = V.2.2.1 ∨ σ.sh.length ≤ V'.2.2.1) ∧ (V'.2.2.2 = V.2.2.2 ∨ σ.sh.length ≤ V'.2.2.2) ∧ (sqA τ = sqA σ ∨ σ.sh.length ≤ sqA τ)
theorem ChF.tr (h : ChF H V V' σ τ) (g : ChF H V' V2 τ υ) : ChF H V V2 σ υ := by
  obtain ⟨h1, h2, ⟨h3, h3'⟩, h4, h5, h6, h7, h8⟩ := h
  obtain ⟨g1, g2, ⟨g3, g3'⟩, g4, g5, g6, g7, g8⟩ := g
  have hl := h1.len
  refine ⟨h1.tr g1 (fun a ha q => ?_), fun j q1 q2 => (g2 j q1 q2).trans (h2 j q1 q2), ⟨fun j q => (g3 j q).trans (h3 j q), fun j q => ⟨(g3' j q).1.trans (h3' j q).1, (g3' j q).2.1.trans (h3' j q).2.1, (g3' j q).2.2.trans (h3' j q).2.2⟩⟩, h4.tr g4, by omega, by omega, by omega, by omega⟩
  unfold seE neE at q ⊢
  omega
theorem XF.chf {E : Nat → Prop} (H : Nat) (V : Nat × Nat × Nat × Nat) (h : XF E σ τ) (hE : ∀ a, E a → (47 ≤ a ∧ a ≤ 55) ∨ a = 84 ∨ (89 ≤ a ∧ a ≤ 92) ∨ a = 101) (h84 : ∀ j, j ≠ 4 → j ≠ 12 → τ.i 84 j = σ.i 84 j) : ChF H V V σ τ := ⟨h.ga.mono (fun a _ q => by have := hE a q; unfold neE; omega), h84, ⟨fun j _ => by rw [(h.2.2 85 (fun q => by have := hE _ q; omega)).1], fun j _ => ⟨by rw [(h.2.2 86 (fun q => by have := hE _ q; omega)).1], by rw [(h.2.2 87 (fun q => by have := hE _ q; omega)).1], by rw [(h.2.2 88 (fun q => by have := hE _ q; omega)).1]⟩⟩, SzH.refl h.1 (h.2.2 46 (fun q => by have := hE _ q; omega)).1, Or.inl rfl, Or.inl rfl, Or.inl rfl, Or.inl (sqA_g (by rw [h.2.1]))⟩
theorem CaF.chf (V : Nat × Nat × Nat × Nat) (F : FX ΦC σ.sh σ.r) (st : sqA σ = 47 ∨ 102 ≤ sqA σ) (h : CaF H σ τ) : ChF H V V σ τ := ⟨h.1.1.ga.mono (fun a _ q => q.elim (fun q => Or.inr (Or.inl q)) (fun q => Or.inr (Or.inr (by omega)))), fun j _ _ => by rw [(h.1.row F st (a := 84) (by omega)).1], ⟨h.2.1, h.2.2⟩, h.1.2.2.any, Or.inl rfl, Or.inl rfl, Or.inl rfl, h.1.2.1⟩
theorem LpF.chf (H : Nat) (A : SeA σ V) (F : FX ΦC σ.sh σ.r) (h : LpF V V' σ τ) : ChF H V V' σ τ := by
  have l100 : 101 < σ.sh.length := (List.getElem?_eq_some_iff.mp (F.s (a := 101) t0_101)).1
  exact ⟨h.1.ga.mono (fun a _ q => q.elim (fun q => Or.inl q) (fun q => Or.inr (Or.inr (by omega)))), fun j _ _ => by rw [(LpF.row A F h (by omega)).1], ⟨fun j _ => by rw [(LpF.row A F h (by omega)).1], fun j _ => ⟨by rw [(LpF.row A F h (by omega)).1], by rw [(LpF.row A F h (by omega)).1], by rw [(LpF.row A F h (by omega)).1]⟩⟩, h.2.2.1.szh (LpF.row A F h (by omega)).1, h.2.2.2.1, h.2.2.2.2.1, h.2.2.2.2.2, Or.inl (sqA_g (h.1.2.1 46 3 (by omega) (by omega)))⟩
theorem ap_flt : apL W on c k v W.2.2.2.length = ((List.range W.2.2.2.length).map (· + 1)).filter (fun m => decide (m ∈ apL W on c k v W.2.2.2.length)) := by
  conv => lhs; unfold apL
  refine List.filter_congr (fun m hm => ?_)
  rw [Bool.eq_iff_iff, decide_eq_true_iff]
  unfold apL
  rw [List.mem_filter]
  exact ⟨fun q => ⟨hm, q⟩, fun q => q.2⟩
theorem cl_choose (h : LqS C W wy a0 V u σ) (ne : NeS W σ) (nt : NtS W wy σ) (hkz : ∀ p, plW W.2.1 c ≤ p → k p = 0) (hc : c < W.2.1.length) (gv : GvS gA (plW W.2.1 c) k v σ) (hgA : 93 ≤ gA ∧ gA < 102) (hk : ∀ p, p < plW W.2.1 c → k p ∈ mkW W.1) (ho : LyW W on) (hH : H ≤ 25) (hch : ch < 4) (e3 : σ.i 84 3 = Int32.ofNat ch) (e4 : σ.i 84 4 = Int32.ofNat lk) (hu : u + 18 * upN σ < 2147483648)
    (kk : ∀ τ V' u', LqS C W wy a0 V' u' τ → NeS W τ → NtS W wy τ → ChF H V V' σ τ → u' + 18 * upN τ ≤ u + 18 * upN σ → τ.i 84 4 = Int32.ofNat (lk + loN W c ch k) → (((apL W on c k v W.2.2.2.length).any fun m => decide (rlM W.2.2.2 m = 0)) = true → (∀ r, r < 4 → RwH H r (rowW W wy on c k (apL W on c k v W.2.2.2.length) r).1 (rowW W wy on c k (apL W on c k v W.2.2.2.length) r).2 τ) → K (.inl (some (.int 1))) τ) ∧ (((apL W on c k v W.2.2.2.length).any fun m => decide (rlM W.2.2.2 m = 0)) = false → K (.inl (some (.int 0))) τ)) : C_X0_choose_0 Z (d + 7) σ (Int32.ofNat c) gA (Int32.ofNat H) (lyE on) K := by
  obtain ⟨c24, ec, p1, p3⟩ := h.1.cx hc
  have kl : ∀ p, p < plW W.2.1 c → k p < W.1.length := fun p hp => mk_lt (hk p hp)
  have ml := h.1.1.2.2.2.2.1.2.1
  -- the kinds
  have lp : ∀ (f p : Nat) (τ : Sg), p + f = plW W.2.1 c → XF (fun a => a = 89) σ τ → (∀ p', p' < p → τ.i 89 p' = Int32.ofNat (k p')) → C_X0_choose_3 Z (d + 7) τ (Int32.ofNat c) gA (Int32.ofNat H) (lyE on) (Int32.ofNat p) K := by
    intro f
    induction f with
    | zero =>
      intro p τ hp g hd
      have ep : p = plW W.2.1 c := by omega
      subst ep
      obtain ⟨L1, n1⟩ := h.xg g (fun a q => by omega)
      have ne1 : NeS W τ := ne.xf g (fun a q => by omega)
      have nt1 : NtS W wy τ := nt.xf g (fun a q => by omega)
      have ka : KaS W 89 (plW W.2.1 c) k τ := ⟨⟨3, by omega, L1.1.1.1.s (a := 89) t0_89⟩, fun p hp => ⟨hd p hp, kl p hp⟩⟩
      have e3' : τ.i 84 3 = Int32.ofNat ch := by
        rw [(g.2.2 84 (by decide)).1]
        exact e3
      have e4' : τ.i 84 4 = Int32.ofNat lk := by
        rw [(g.2.2 84 (by decide)).1]
        exact e4
      have f0 : ChF H V V σ τ := g.chf H V (fun a q => by omega) (fun j _ _ => by rw [(g.2.2 84 (by decide)).1])
      refine T_X0_choose_3 L1.1.1.1 ?_
      rw [oN_t (by omega), (L1.1.cx hc).2.1, e3', e4']
      refine ⟨ib_oN c24 (by decide), fun _ => ?_, fun z => absurd (Int32.le_refl _) z⟩
      refine cl_looks L1 hc ka (by omega) hk hch (by omega) (fun τ1 V1 u1 L2 f1 => ?_)
      obtain ⟨S0, hS0⟩ := L1.2.2.1
      have row := fun {a : Nat} (ha : a < 56 ∨ (66 < a ∧ a < 102)) => LpF.row hS0.1 L1.1.1.1 f1.1 ha
      have ne2 : NeS W τ1 := ne1.lp L1.2.1 hS0.1 L1.1.1.1 f1.1
      have nt2 : NtS W wy τ1 := nt1.row (fun a q => row (a := a) (by omega))
      have c1 := f0.tr (f1.1.chf H hS0.1 L1.1.1.1)
      show C_X0_gatherApplying_0 Z (d + 6) (τ1.wi 84 4 (Int32.ofNat lk + Int32.ofNat (loN W c ch k))) _ _ _ _
      rw [oN_add]
      have x2 : XF (fun a => a = 84) τ1 (τ1.wi 84 4 (Int32.ofNat (lk + loN W c ch k))) := (XF.refl _ _).wi rfl
      obtain ⟨L3, n3⟩ := L2.xg x2 (fun a q => by omega)
      have ne3 : NeS W (τ1.wi 84 4 (Int32.ofNat (lk + loN W c ch k))) := ne2.xf x2 (fun a q => by omega)
      have ka3 : KaS W 89 (plW W.2.1 c) k (τ1.wi 84 4 (Int32.ofNat (lk + loN W c ch k))) := by
        refine ⟨⟨3, by omega, L3.1.1.1.s (a := 89) t0_89⟩, fun p hp => ⟨?_, kl p hp⟩⟩
        rw [wi_ne (by omega), (row (a := 89) (by omega)).1]
        exact hd p hp
      have gv3 : GvS gA (plW W.2.1 c) k v (τ1.wi 84 4 (Int32.ofNat (lk + loN W c ch k))) := by
        have g1 := gv.xf g (by omega)
        obtain ⟨⟨nn, q1, q2⟩, q3⟩ := g1
        refine ⟨⟨nn, q1, f1.1.1.sh q2⟩, ?_⟩
        show ∀ p, p < plW W.2.1 c → kdV (τ1.l gA p) = _ ∧ (nmV (τ1.l gA p)).toInt = _
        rw [(row (a := gA) (by omega)).2]
        exact q3
      have c2 := c1.tr (x2.chf H V1 (fun a q => by omega) (fun j q1 q2 => wi_ne (by omega)))
      have nt3 : NtS W wy (τ1.wi 84 4 (Int32.ofNat (lk + loN W c ch k))) := nt2.xf x2 (fun a q => by omega)
      refine cl_applying L3.1 hc ka3 gv3 (by omega) ho (fun τ3 x3 g84 r90 e11 mka => ?_)
      have nt4 : NtS W wy τ3 := nt3.xf x3 (fun a q => by omega)
      obtain ⟨L4, n4⟩ := L3.xg x3 (fun a q => by omega)
      have ne4 : NeS W τ3 := ne3.xf x3 (fun a q => by omega)
      have c3 := c2.tr (x3.chf H V1 (fun a q => by omega) (fun j q1 q2 => g84 j q2))
      have e44 : τ3.i 84 4 = Int32.ofNat (lk + loN W c ch k) := by
        rw [g84 4 (by decide), wi_at]
      cases an : ((apL W on c k v W.2.2.2.length).any fun m => decide (rlM W.2.2.2 m = 0)) with
      | false =>
        rw [if_neg (by decide)]
        refine ⟨fun z => absurd rfl z, fun _ => ?_⟩
        exact (kk τ3 V1 u1 L4 ne4 nt4 c3 (by have := f1.2; omega) e44).2 an
      | true =>
        rw [if_pos rfl]
        refine ⟨fun _ => ?_, fun z => absurd z (by decide)⟩
        have al : (apL W on c k v W.2.2.2.length).length ≤ W.2.2.2.length := apL_len
        have apA : ∀ m ∈ apL W on c k v W.2.2.2.length, m ∈ ftL W c k := fun m hm => by
          rw [ap_ft] at hm
          exact (List.mem_filter.mp hm).1
        have nd : (apL W on c k v W.2.2.2.length).Nodup := by
          rw [ap_ft]
          exact List.Pairwise.sublist List.filter_sublist (ft_nd W c k)
        have rs := rl_sum (ms := W.2.2.2) (apL W on c k v W.2.2.2.length)
        have ka4 : KaS W 89 (plW W.2.1 c) k τ3 := ka3.xf x3 (by omega)
        have apn : apL W on c k v W.2.2.2.length ≠ [] := fun z => by
          rw [z] at an
          cases an
        have ng : NtG W c k on (apL W on c k v W.2.2.2.length) := ⟨hc, kl, hkz, ho, apn, apA, ap_flt⟩
        refine cl_isLaid L4.1 ka4 mka nt4 ng hH (fun τ4 b x4 n5 nv0 nv rwb => ?_)
        obtain ⟨L5, m5⟩ := L4.xg x4 (fun a q => by omega)
        have ne5 : NeS W τ4 := ne4.xf x4 (fun a q => by omega)
        have c4 := c3.tr (x4.chf H V1 (fun a q => by omega) (fun j _ _ => by rw [(x4.2.2 84 (by decide)).1]))
        have v16 : τ4.i 1 16 = τ3.i 1 16 := by rw [(x4.2.2 1 (by decide)).1]
        have e45 : τ4.i 84 4 = Int32.ofNat (lk + loN W c ch k) := by
          rw [(x4.2.2 84 (by decide)).1]
          exact e44
        -- the notes, once the rows are there
        have nts : ∀ υ : Sg, (∀ j, υ.l 101 j = τ4.l 101 j) → υ.i 1 16 = τ4.i 1 16 → (∀ j, j < 128 * H ∨ 128 * H + 128 ≤ j → υ.i 85 j = τ4.i 85 j) → (∀ j, j < 4 * H ∨ 4 * H + 4 ≤ j → υ.i 86 j = τ4.i 86 j ∧ υ.i 87 j = τ4.i 87 j ∧ υ.i 88 j = τ4.i 88 j) → (∀ r, r < 4 → RwH H r (rowW W wy on c k (apL W on c k v W.2.2.2.length) r).1 (rowW W wy on c k (apL W on c k v W.2.2.2.length) r).2 υ) → NtS W wy υ := fun υ ul u1 u5 u6 ur H' hH' => by
          by_cases q : H' = H
          · subst q
            refine ⟨?_, fun _ => ⟨c, k, on, _, ng, ⟨(ul _).trans nv.1, (ul _).trans nv.2.1, fun m h1 h2 => ?_⟩, ur⟩⟩
            · rw [ul, nv0, u1, v16, Int32.toInt_toInt64]
              exact Int.le_refl _
            · rw [ul, ul]
              exact nv.2.2 m h1 h2
          · refine (nt4 H' hH').keep (u1.trans v16) (fun j h1 h2 => (ul j).trans (n5 j (by omega))) (fun j h1 h2 => ?_) (fun j h1 h2 => ?_)
            · rw [u5 j (by omega), (x4.2.2 85 (by decide)).1]
            · obtain ⟨y1, y2, y3⟩ := u6 j (by omega)
              exact ⟨y1.trans (by rw [(x4.2.2 86 (by decide)).1]), y2.trans (by rw [(x4.2.2 87 (by decide)).1]), y3.trans (by rw [(x4.2.2 88 (by decide)).1])⟩
        cases b with
        | true =>
          refine ⟨fun z => absurd z (by decide), fun _ => ?_⟩
          have rw5 : ∀ r, r < 4 → RwH H r (rowW W wy on c k (apL W on c k v W.2.2.2.length) r).1 (rowW W wy on c k (apL W on c k v W.2.2.2.length) r).2 τ4 := fun r hr => (rwb rfl r hr).keep hr (fun j _ _ => by rw [(x4.2.2 85 (by decide)).1]) (fun j _ _ => ⟨by rw [(x4.2.2 86 (by decide)).1], by rw [(x4.2.2 87 (by decide)).1], by rw [(x4.2.2 88 (by decide)).1]⟩)
          exact (kk τ4 V1 u1 L5 ne5 (nts τ4 (fun _ => rfl) rfl (fun _ _ => rfl) (fun _ _ => ⟨rfl, rfl, rfl⟩) rw5) c4 (by have := f1.2; omega) e45).1 an rw5
        | false =>
          refine ⟨fun _ => ?_, fun z => absurd rfl z⟩
          have S3 : ChZ C W wy a0 c k (apL W on c k v W.2.2.2.length) τ4 := ⟨L5.1, ne5, ka4.xf x4 (by omega), fun i y hy => by rw [(x4.2.2 90 (by decide)).1]; exact r90 i y hy, by rw [(x4.2.2 84 (by decide)).1]; exact e11⟩
          refine ch_94 hH hc apA nd (by omega) ho τ4 (fun τ5 x5 S4 rw4 => ?_) 4 0 0 τ4 (by omega) ?_ (CaF.refl _ _) S3 (fun r' z => absurd z (Nat.not_lt_zero _))
          · obtain ⟨L6, n6⟩ := L5.he ne5 S4.2.1 x5.1 (fun a q => by omega)
            refine (kk τ5 V1 u1 L6 S4.2.1 (nts τ5 (fun j => ?_) ?_ x5.2.1 x5.2.2 rw4) (c4.tr (x5.chf V1 L5.1.1.1 ne5.sq)) (by have := f1.2; omega) ?_).1 an rw4
            · rw [(x5.1.row L5.1.1.1 ne5.sq (a := 101) (by omega)).2]
            · rw [(x5.1.row L5.1.1.1 ne5.sq (a := 1) (by omega)).1]
            · rw [(x5.1.row L5.1.1.1 ne5.sq (a := 84) (by omega)).1]
              exact e45
          · rw [if_pos (by omega), if_pos (by omega), if_pos (by omega), if_pos (by omega)]
            omega
    | succ f ih =>
      intro p τ hp g hd
      obtain ⟨L1, n1⟩ := h.xg g (fun a q => by omega)
      obtain ⟨⟨nn, q1, q2⟩, q3⟩ := gv.xf g (by omega)
      refine T_X0_choose_3 L1.1.1.1 ?_
      rw [oN_t (by omega), (L1.1.cx hc).2.1, oN_le (by omega) (by omega)]
      refine ⟨ib_oN c24 (by decide), fun z => absurd z (by omega), fun _ => ⟨nn, q2, ib_i (by rw [oN_i (by omega)]; omega) (by rw [oN_i (by omega)]; omega), ?_⟩⟩
      rw [oN_t (by omega)]
      refine T_X4_kindOf_0 L1.1.1.1 ⟨ib_oN (by omega) (by decide), ?_⟩
      have ekd : Int64.toInt32 (τ.l gA p >>> (Int32.toInt64 (32 : Int32) &&& 63)) = Int32.ofNat (k p) := (q3 p (by omega)).1
      rw [ekd, oN_1]
      refine ih (p + 1) _ (by omega) (g.wi rfl) (fun p' hp' => ?_)
      by_cases e : p' = p
      · rw [e, wi_at]
      · rw [wi_ne (by omega)]
        exact hd p' (by omega)
  exact T_X0_choose_0 h.1.1.1 (lp _ 0 σ (Nat.zero_add _) (XF.refl _ _) (fun p' z => absurd z (Nat.not_lt_zero _)))
end CHOOSE3

/-! THE CLASS: a row, over all cells of numbers -/
section JROW
variable {Z : zT} {d A u : Nat} {σ σ0 τ υ : Sg} {K : kS} {C : Nat × Nat × Nat × Nat} {W : Wld} {wy a0 kA oA c m n : Nat} {k : Nat → Nat} {L : List Nat} {as : List AkQ} {P : (Nat → Int) → Prop} {cs : List Cut}
theorem SpK.xf {E : Nat → Prop} (h : SpK A cs σ) (g : XF E σ τ) (hE : ∀ a, E a → a < A ∨ A + 7 < a) : SpK A cs τ := by
  have e : ∀ a, A ≤ a → a ≤ A + 7 → τ.i a = σ.i a ∧ τ.l a = σ.l a := fun a h1 h2 => g.2.2 a (fun q => by have := hE a q; omega)
  unfold SpK
  rw [(e A (by omega) (by omega)).1, (e (A + 3) (by omega) (by omega)).1, (e (A + 4) (by omega) (by omega)).1, (e (A + 5) (by omega) (by omega)).2]
  exact h
theorem SpS.xf {E : Nat → Prop} (h : SpS A as σ) (g : XF E σ τ) (hE : ∀ a, E a → a < A ∨ A + 7 < a) : SpS A as τ := by
  have e : ∀ a, A ≤ a → a ≤ A + 7 → τ.i a = σ.i a ∧ τ.l a = σ.l a := fun a h1 h2 => g.2.2 a (fun q => by have := hE a q; omega)
  refine ⟨h.1.xf g hE, ?_⟩
  rw [(e A (by omega) (by omega)).1, (e (A + 1) (by omega) (by omega)).1, (e (A + 2) (by omega) (by omega)).1]
  exact h.2
theorem Rw0.xf {E : Nat → Prop} (h : Rw0 A σ) (g : XF E σ τ) (hE : ∀ a, E a → a < A ∨ A + 7 < a) : Rw0 A τ := by
  unfold Rw0
  rw [(g.2.2 (A + 7) (fun q => by have := hE _ q; omega)).2]
  exact h
theorem SpQ.xf {E : Nat → Prop} (h : SpQ A cs P σ) (g : XF E σ τ) (hE : ∀ a, E a → a < A ∨ A + 7 < a) : SpQ A cs P τ := by
  have e : ∀ a, A ≤ a → a ≤ A + 7 → τ.i a = σ.i a ∧ τ.l a = σ.l a := fun a h1 h2 => g.2.2 a (fun q => by have := hE a q; omega)
  obtain ⟨⟨h1, h2, h3⟩, h4⟩ := h
  refine ⟨⟨g.fx h1, h2.xf g hE, h3.xf g hE⟩, ?_⟩
  rcases h4 with ⟨β, L, s, q1, q2, ⟨f, k1, k2, k3, k4, k5, k6, k7⟩, q4⟩ | q
  · refine Or.inl ⟨β, L, s, q1, q2, ⟨g.fx f, k1.xf g hE, ?_, ?_, ?_, ?_, ?_, k7⟩, q4⟩
    · rw [(e A (by omega) (by omega)).1]
      exact k2
    · rw [(e (A + 6) (by omega) (by omega)).1]
      exact k3
    · rw [(e (A + 6) (by omega) (by omega)).1]
      exact k4
    · rw [(e (A + 7) (by omega) (by omega)).2]
      exact k5
    · rw [(e A (by omega) (by omega)).2]
      exact k6
  · rw [← (e A (by omega) (by omega)).1] at q
    exact Or.inr q
theorem SpQ.fr {s : List Sh} {r : Nat → Nat → Rf} (h : SpQ A cs P (s, τ.i, τ.l, r)) (F : FX ΦC τ.sh τ.r) : SpQ A cs P τ := by
  obtain ⟨⟨h1, h2, h3⟩, h4⟩ := h
  refine ⟨⟨F, h2, h3⟩, ?_⟩
  rcases h4 with ⟨β, L, s, q1, q2, ⟨f, k1, k2, k3, k4, k5, k6, k7⟩, q4⟩ | q
  · exact Or.inl ⟨β, L, s, q1, q2, ⟨F, k1, k2, k3, k4, k5, k6, k7⟩, q4⟩
  · exact Or.inr q
theorem CeV.xf {E : Nat → Prop} {y : Nat → Int} (h : CeV A as y σ) (g : XF E σ τ) (hE : ∀ a, E a → a < A ∨ A + 7 < a) : CeV A as y τ := by
  unfold CeV
  rw [(g.2.2 A (fun q => by have := hE _ q; omega)).2]
  exact h
/-- while a row is judged -/
def JrS (C : Nat × Nat × Nat × Nat) (W : Wld) (wy a0 c : Nat) (k : Nat → Nat) (L : List Nat) (σ : Sg) : Prop := QwS C W wy a0 σ ∧ NeS W σ ∧ KaS W 71 (plW W.2.1 c) k σ ∧ (RoS 72 L σ ∧ σ.i 67 9 = Int32.ofNat L.length) ∧ SpS 75 (caQ W k L) σ ∧ ∀ i, i < L.length → σ.i 73 i = Int32.ofNat (caQ W k (L.take i)).length
theorem NeS.xf {E : Nat → Prop} (h : NeS W σ) (g : XF E σ τ) (hE : ∀ a, E a → (a < 46 ∨ 55 < a) ∧ a ≤ 101) : NeS W τ := ⟨h.1.xf g (fun a q => by have := hE a q; omega), h.2.keep (by rw [g.2.1]) (by rw [(g.2.2 46 (fun q => by have := hE _ q; omega)).1]) (fun s hs => by rw [g.1]; exact hs) (g.2.2 _ (fun q => by have := hE _ q; have := h.sq; omega)).1⟩
theorem JrS.xf {E : Nat → Prop} (h : JrS C W wy a0 c k L σ) (g : XF E σ τ) (hE : ∀ a, E a → (46 ≤ a ∧ a ≤ 101) ∧ ((a < 46 ∨ 55 < a) ∧ a ≤ 101) ∧ a ≠ 71 ∧ a ≠ 72 ∧ a ≠ 73 ∧ (a < 75 ∨ 82 < a)) (e9 : τ.i 67 9 = σ.i 67 9) : JrS C W wy a0 c k L τ := by
  obtain ⟨h1, h2, h3, ⟨h4, h5⟩, h6, h7⟩ := h
  refine ⟨h1.xf g (fun a q => (hE a q).1), h2.xf g (fun a q => (hE a q).2.1), h3.xf g (fun q => (hE _ q).2.2.1 rfl), ⟨fun i y hy => ?_, e9.trans h5⟩, h6.xf g (fun a q => by have := (hE a q).2.2.2.2.2; omega), fun i hi => ?_⟩
  · rw [(g.2.2 72 (fun q => (hE _ q).2.2.2.1 rfl)).1]
    exact h4 i y hy
  · rw [(g.2.2 73 (fun q => (hE _ q).2.2.2.2.1 rfl)).1]
    exact h7 i hi
theorem JrS.nh (h : JrS C W wy a0 c k L σ) (g : NhF σ τ) (n' : NeS W τ) : JrS C W wy a0 c k L τ := by
  obtain ⟨h1, h2, h3, ⟨h4, h5⟩, h6, h7⟩ := h
  have w6 := h6.xf (g.vw h1.1.1 h2.sq) (fun a q => by omega)
  refine ⟨h1.nh h2.sq g, n', h3.nh h2.sq g (by omega), ⟨fun i y hy => ?_, ?_⟩, w6, fun i hi => ?_⟩
  · rw [(g.row h1.1.1 h2.sq (a := 72) (by omega)).1]
    exact h4 i y hy
  · rw [(g.row h1.1.1 h2.sq (a := 67) (by omega)).1]
    exact h5
  · rw [(g.row h1.1.1 h2.sq (a := 73) (by omega)).1]
    exact h7 i hi
theorem JrS.nx (h : JrS C W wy a0 c k L σ) (g : NxF 75 σ τ) : JrS C W wy a0 c k L τ := by
  obtain ⟨h1, h2, h3, ⟨h4, h5⟩, h6, h7⟩ := h
  refine ⟨h1.xf g.1 (fun a q => by omega), h2.xf g.1 (fun a q => by omega), h3.xf g.1 (by omega), ⟨fun i y hy => ?_, ?_⟩, h6.nx g, fun i hi => ?_⟩
  · rw [(g.1.2.2 72 (by omega)).1]
    exact h4 i y hy
  · rw [(g.1.2.2 67 (by omega)).1]
    exact h5
  · rw [(g.1.2.2 73 (by omega)).1]
    exact h7 i hi
/-- who applies for numbers of a cell -/
theorem jr_81 {l1 l2 l3 : Int32} {v : Nat → Int} {w : Nat} (hc : c < W.2.1.length) (hA : ∀ x ∈ L, x ∈ ftL W c k) (hL : L.length ≤ 120) (σ0 : Sg) (kk : ∀ τ, XF (fun a => a = 67 ∨ a = 74) σ0 τ → JrS C W wy a0 c k L τ → RoS 74 (L.filter (tkW W (plW W.2.1 c) k v)) τ → τ.i 67 11 = Int32.ofNat (L.filter (tkW W (plW W.2.1 c) k v)).length → C_X10_judgeRow_81 Z (d + 4) τ l1 l2 l3 (Int32.ofNat L.length) K) : ∀ (r i : Nat) (τ : Sg) (D : List Nat), i + r = L.length → XF (fun a => a = 67 ∨ a = 74) σ0 τ → JrS C W wy a0 c k L τ → CeV 75 (caQ W k L) (vx v) τ → D = (L.take i).filter (tkW W (plW W.2.1 c) k v) → RoS 74 D τ → τ.i 67 11 = Int32.ofNat D.length → C_X10_judgeRow_81 Z (d + 4) τ l1 l2 l3 (Int32.ofNat i) K := by
  intro r
  induction r with
  | zero =>
    intro i τ D hi g H cv eD hD e11
    have ei : i = L.length := by omega
    subst ei
    rw [List.take_length] at eD
    subst eD
    exact kk τ g H hD e11
  | succ r ih =>
    intro i τ D hi g H cv eD hD e11
    have Hh := H
    obtain ⟨h1, h2, h3, ⟨h4, h5⟩, h6, h7⟩ := H
    have kl : ∀ p, p < plW W.2.1 c → k p < W.1.length := fun p hp => (h3.2 p hp).2
    have hi' := List.getElem?_eq_getElem (show i < L.length by omega)
    have ei := h4 i _ hi'
    have e73 := h7 i (by omega)
    have lm : L[i] ∈ L := List.getElem_mem _
    obtain ⟨j, x, ej, hx, -, ec, -⟩ := ft_at h1.1 kl (hA _ lm)
    obtain ⟨s1, s2, s3⟩ := spM_at hx
    have hj := (h1.1.at hx).1
    have dl : D.length ≤ i := by
      rw [eD]
      have := List.length_filter_le (tkW W (plW W.2.1 c) k v) (L.take i)
      rw [List.length_take] at this
      omega
    have et : L.take (i + 1) = L.take i ++ [L[i]] := by
      rw [List.take_succ, hi']
      rfl
    have ea : caQ W k L = caQ W k (L.take i) ++ (asQ (blW W.1) k x.1.2.2.2.1 x.1.2.2.2.2.1 ++ caQ W k (L.drop (i + 1))) := by
      conv => lhs; rw [← List.take_append_drop i L, ← List.getElem_cons_drop (h := show i < L.length by omega), caQ_app]
      congr 1
      show asQ (blW W.1) k (spM W.2.2.2 L[i]) (tsM W.2.2.2 L[i]) ++ caQ W k (L.drop (i + 1)) = _
      rw [ej, s1, s2]
    have tke : tkW W (plW W.2.1 c) k v L[i] = tkM (plW W.2.1 c) x.1.2.2.2.1 (blW W.1) k x.1.2.2.2.2.1 v := by
      unfold tkW
      rw [ej, s1, s2]
    refine T_X10_judgeRow_81 h1.1.1 ?_
    rw [h5, oN_le (by omega) (by omega), oN_t (by omega), ei, e73, ej]
    refine ⟨fun z => absurd z (by omega), fun _ => ⟨ib_oN (by omega) (by decide), ib_oN (by omega) (by decide), ?_⟩⟩
    refine cl_taken (pl := plW W.2.1 c) (Or.inr rfl) h1.1 hx (by rw [ec, Int.toNat_natCast]) h6 cv ea ?_
    rw [← tke]
    cases tv : tkW W (plW W.2.1 c) k v L[i] with
    | false =>
      rw [if_neg (by decide)]
      refine ⟨fun _ => ?_, fun z => absurd rfl z⟩
      rw [oN_1]
      refine ih (i + 1) τ D (by omega) g Hh cv ?_ hD e11
      rw [et, List.filter_append, ← eD, List.filter_cons_of_neg (by rw [tv]; exact Bool.false_ne_true), List.filter_nil, List.append_nil]
    | true =>
      rw [if_pos rfl]
      refine ⟨fun z => absurd z (by decide), fun _ => ⟨ib_oN (by omega) (by decide), ?_⟩⟩
      rw [e11, oN_t (by omega), ei, oN_1, oN_1]
      refine ⟨ib_oN (by omega) (by decide), ?_⟩
      have xw : XF (fun a => a = 67 ∨ a = 74) τ ((τ.wi 74 D.length (Int32.ofNat L[i])).wi 67 11 (Int32.ofNat (D.length + 1))) := ((XF.refl _ _).wi (by omega)).wi (by omega)
      refine ih (i + 1) _ (D ++ [L[i]]) (by omega) (g.tr xw) (Hh.xf xw (fun a q => by omega) ?_) (cv.xf xw (fun a q => by omega)) ?_ (fun a y hy => ?_) ?_
      · rw [wi_ne (by omega), wi_ne (by omega)]
      · rw [et, List.filter_append, ← eD, List.filter_cons_of_pos tv, List.filter_nil]
      · rw [wi_ne (by omega)]
        by_cases q : a < D.length
        · rw [List.getElem?_append_left q] at hy
          rw [wi_ne (by omega)]
          exact hD a y hy
        · rw [List.getElem?_append_right (by omega)] at hy
          have jl := (List.getElem?_eq_some_iff.mp hy).1
          rw [List.length_singleton] at jl
          have je : a = D.length := by omega
          subst je
          rw [Nat.sub_self] at hy
          cases hy
          exact wi_at ..
      · rw [wi_at, List.length_append, List.length_singleton]
theorem caQ_W (h : SkR C W a0 σ) (hk : ∀ p, p < plW W.2.1 c → k p < W.1.length) (hA : ∀ x ∈ L, x ∈ ftL W c k) : AkW (caQ W k L) := fun q hq => by
  obtain ⟨m, hm, hq⟩ := List.mem_flatMap.mp hq
  obtain ⟨j, x, rfl, hx, -⟩ := ft_at h hk (hA m hm)
  obtain ⟨s1, s2, s3⟩ := spM_at hx
  rw [s1, s2] at hq
  exact (asQ_W h hx).1 q hq
/-- what judging a row may write -/
def JwF (σ τ : Sg) : Prop := NhE (fun a => a = 67 ∨ (73 ≤ a ∧ a ≤ 82)) σ τ
theorem JwF.tr (h : JwF σ τ) (g : JwF τ υ) : JwF σ υ := NhE.tr h g
/-- the cells -/
theorem jr_57 (hT : TrW W.1) (hc : c < W.2.1.length) (hA : ∀ x ∈ L, x ∈ ftL W c k) (nd : L.Nodup) (hL : L.length ≤ 120) (σ0 : Sg)
    (kk : ∀ τ (r : Nat), JwF σ0 τ → JrS C W wy a0 c k L τ → Rw0 75 τ → r = (if pD (∃ v, InR v ∧ L.filter (tkW W (plW W.2.1 c) k v) = []) = true then 1 else if jnW W.2.1 c = 0 ∧ pD (∃ v, InR v ∧ foI (frI (fun x y => nrI W wy x y k) (L.filter (tkW W (plW W.2.1 c) k v))) < 0) = true then 2 else 0) → K (.inl (some (.int (Int32.ofNat r)))) τ) :
    ∀ (m n w : Nat) (P : (Nat → Int) → Prop) (τ : Sg), 1000000 - n ≤ m → JwF σ0 τ → JrS C W wy a0 c k L τ → SpQ 75 (cuL (caQ W k L)) P τ → SnC (cuL (caQ W k L)) P n → (∀ v, InR v → ¬ P (vx v) → L.filter (tkW W (plW W.2.1 c) k v) ≠ []) → (w = 0 ∧ (jnW W.2.1 c = 0 → ∀ v, InR v → ¬ P (vx v) → 0 ≤ foI (frI (fun x y => nrI W wy x y k) (L.filter (tkW W (plW W.2.1 c) k v)))) ∨ w = 2 ∧ jnW W.2.1 c = 0 ∧ ∃ v, InR v ∧ foI (frI (fun x y => nrI W wy x y k) (L.filter (tkW W (plW W.2.1 c) k v))) < 0) → C_X10_judgeRow_57 Z (d + 6) τ (Int32.ofNat c) (Int32.ofNat w) (Int32.ofNat n) K := by
  intro m
  induction m with
  | zero =>
    intro n w P τ hm f H Q sn h1 h2
    have := sn.lt Q.1.2.1.1.2
    omega
  | succ m ih =>
    intro n w P τ hm f H Q sn h1 h2
    have cl := sn.lt Q.1.2.1.1.2
    have hq := H.1
    have kl : ∀ p, p < plW W.2.1 c → k p < W.1.length := fun p hp => (H.2.2.1.2 p hp).2
    have AW := caQ_W hq.1 kl hA
    obtain ⟨c24, ec, p1, p3⟩ := hq.cx hc
    refine T_X10_judgeRow_57 hq.1.1 ?_
    rw [show (1000000 : Int32) ≤ Int32.ofNat n ↔ 1000000 ≤ n from oN_le (a := 1000000) (by decide) (by omega)]
    refine ⟨fun z => absurd z (by omega), fun _ => cl_nextC (Or.inr rfl) (cuL_W AW) Q ?_ ?_⟩
    · intro υ β P' f1 ce hP hd Q'
      refine ⟨fun z => absurd z (by decide), fun _ => ?_⟩
      obtain ⟨y0, p0, ag0⟩ := ne_ex (cuL_W AW) (Nat.le_refl _) ce.2
      obtain ⟨v0, rfl, r0⟩ := vx_of p0
      have cv : CeV 75 (caQ W k L) (vx v0) υ := ce.cv ag0
      have H1 := H.nx f1
      have f01 : JwF σ0 υ := f.tr (f1.1.he (fun a q => by omega) (by omega))
      -- numbers of one cell
      have same : ∀ v, agB (cuL (caQ W k L)) β (cuL (caQ W k L)).length (vx v) → L.filter (tkW W (plW W.2.1 c) k v) = L.filter (tkW W (plW W.2.1 c) k v0) := fun v hv => by
        refine List.filter_congr (fun x hx => ?_)
        obtain ⟨j, y, rfl, hy, -, ey, -⟩ := ft_at hq.1 kl (hA x hx)
        obtain ⟨s1, s2, s3⟩ := spM_at hy
        have pp := hq.1.plx hy
        rw [ey, Int.toNat_natCast] at pp
        unfold tkW
        rw [s1, s2]
        refine tk_ce pp.2.2.1 pp.1 (as := caQ W k L) (fun q hq' => List.mem_flatMap.mpr ⟨j + 1, hx, by rw [s1, s2]; exact hq'⟩) (fun l hl => (hv l hl).trans (ag0 l hl).symm)
      have seen : ∀ v, InR v → ¬ P' (vx v) → ¬ P (vx v) ∨ L.filter (tkW W (plW W.2.1 c) k v) = L.filter (tkW W (plW W.2.1 c) k v0) := fun v hv hn => by
        by_cases hp : P (vx v)
        · rcases (hP _ (pt_vx hv)).mp hp with q | q
          · exact Or.inr (same v q)
          · exact absurd q hn
        · exact Or.inl hp
      have sn' := sn.one (cuL_W AW) Q.1.2.1.1.2 ce.2 hP hd
      have xw : XF (fun a => a = 67 ∨ a = 74) υ (υ.wi 67 11 0) := (XF.refl _ _).wi (by omega)
      have H2 : JrS C W wy a0 c k L (υ.wi 67 11 0) := H1.xf xw (fun a q => by omega) (wi_ne (by omega))
      refine jr_81 (w := w) hc hA hL (υ.wi 67 11 0) (fun χ g H3 r4 e11 => ?_) L.length 0 (υ.wi 67 11 0) [] (by omega) (XF.refl _ _) H2 (cv.xf xw (fun a q => by omega)) rfl (fun i y q => by cases q) (wi_at ..)
      have f2 : JwF σ0 χ := f01.tr ((xw.tr g).he (fun a q => by omega) (by omega))
      have Q2 : SpQ 75 (cuL (caQ W k L)) P' χ := Q'.xf (xw.tr g) (fun a q => by omega)
      have hq3 := H3.1
      have jn : χ.i 32 c = Int32.ofNat (jnW W.2.1 c) ∧ jnW W.2.1 c ≤ 4 := by
        have cx := List.getElem?_eq_getElem hc
        have e : jnW W.2.1 c = (W.2.1[c]).2.2.1 := by
          unfold jnW
          rw [cx]
          rfl
        rw [e]
        exact ⟨(hq3.2.1 c _ cx).1, (hq3.2.2.2.2.1 _ (List.mem_of_getElem? cx)).1⟩
      refine T_X10_judgeRow_81 hq3.1.1 ?_
      rw [H3.2.2.2.1.2, oN_le (by omega) (by omega), e11]
      refine ⟨fun _ => ?_, fun z => absurd (Nat.le_refl _) z⟩
      have al : (L.filter (tkW W (plW W.2.1 c) k v0)).length ≤ L.length := List.length_filter_le ..
      rw [show Int32.ofNat (L.filter (tkW W (plW W.2.1 c) k v0)).length = 0 ↔ (L.filter (tkW W (plW W.2.1 c) k v0)).length = 0 from oN_eq (b := 0) (by omega) (by decide), oN_t (by omega), jn.1, show Int32.ofNat (jnW W.2.1 c) = 0 ↔ jnW W.2.1 c = 0 from oN_eq (b := 0) (by omega) (by decide), oN_1]
      have w2 : w ≤ 2 := by omega
      rw [show Int32.ofNat w = 0 ↔ w = 0 from oN_eq (b := 0) (by omega) (by decide)]
      refine ⟨fun ne => ?_, fun em => ?_⟩
      · have ne' : L.filter (tkW W (plW W.2.1 c) k v0) ≠ [] := fun z => ne (by rw [z]; rfl)
        have h1' : ∀ v, InR v → ¬ P' (vx v) → L.filter (tkW W (plW W.2.1 c) k v) ≠ [] := fun v hv hn => by
          rcases seen v hv hn with q | q
          · exact h1 v hv q
          · rw [q]
            exact ne'
        refine ⟨fun w0 => ih (n + 1) w P' χ (by omega) f2 H3 Q2 sn' h1' ?_, fun w0 => ⟨ib_oN c24 (by decide), fun j0 => ih (n + 1) w P' χ (by omega) f2 H3 Q2 sn' h1' ?_, fun j0 => ?_⟩⟩
        · rcases h2 with q | q
          · exact absurd q.1 w0
          · exact Or.inr q
        · exact Or.inl ⟨w0, fun z => absurd z j0⟩
        · have h20 : ∀ v, InR v → ¬ P (vx v) → 0 ≤ foI (frI (fun x y => nrI W wy x y k) (L.filter (tkW W (plW W.2.1 c) k v))) := by
            rcases h2 with q | q
            · exact q.2 j0
            · omega
          refine cl_hasNearest hT hq3 H3.2.1 H3.2.2.1 (L := L.filter (tkW W (plW W.2.1 c) k v0)) (fun x hx => hA x (List.mem_filter.mp hx).1) (List.Pairwise.sublist List.filter_sublist nd) ⟨Nat.one_le_iff_ne_zero.mpr ne, by omega⟩ e11 r4 (fun ω gn n' => ?_)
          have f3 : JwF σ0 ω := f2.tr gn.he
          have H4 := H3.nh gn n'
          have w3 := Q2.xf (gn.vw hq3.1.1 H3.2.1.sq) (fun a q => by omega)
          have Q3 : SpQ 75 (cuL (caQ W k L)) P' ω := w3.fr (gn.1.fx hq3.1.1)
          by_cases fo : 0 ≤ foI (frI (fun x y => nrI W wy x y k) (L.filter (tkW W (plW W.2.1 c) k v0)))
          · rw [if_pos fo]
            refine ⟨fun _ => ih (n + 1) w P' ω (by omega) f3 H4 Q3 sn' h1' (Or.inl ⟨w0, fun _ v hv hn => ?_⟩), fun z => absurd z (by decide)⟩
            rcases seen v hv hn with q | q
            · exact h20 v hv q
            · rw [q]
              exact fo
          · rw [if_neg fo]
            exact ⟨fun z => absurd rfl z, fun _ => ih (n + 1) 2 P' ω (by omega) f3 H4 Q3 sn' h1' (Or.inr ⟨rfl, j0, v0, r0, by omega⟩)⟩
      · have em' : L.filter (tkW W (plW W.2.1 c) k v0) = [] := List.length_eq_zero_iff.mp em
        refine kk χ 1 f2 H3 Q2.1.2.2 ?_
        rw [if_pos (pD_iff.mpr ⟨v0, r0, em'⟩)]
    · intro υ f1 no Q'
      refine ⟨fun _ => ?_, fun z => absurd rfl z⟩
      refine kk υ w (f.tr (f1.1.he (fun a q => by omega) (by omega))) (H.nx f1) Q'.1.2.2 ?_
      rw [if_neg (fun z => by
        obtain ⟨v, v1, v2⟩ := pD_iff.mp z
        exact h1 v v1 (no _ (pt_vx v1)) v2)]
      rcases h2 with ⟨w0, q⟩ | ⟨w0, q1, q2⟩
      · rw [if_neg (fun z => by
          obtain ⟨v, v1, v2⟩ := pD_iff.mp z.2
          have := q z.1 v v1 (no _ (pt_vx v1))
          omega)]
        exact w0
      · rw [if_pos ⟨q1, pD_iff.mpr q2⟩]
        exact w0
/-- one row -/
theorem cl_judgeRow (hT : TrW W.1) (hc : c < W.2.1.length) (h : QwS C W wy a0 σ) (ne : NeS W σ) (r0 : Rw0 75 σ) (ka : KaS W 71 (plW W.2.1 c) k σ) (hr : RoS 72 (stW W c k W.2.2.2.length) σ) (e9 : σ.i 67 9 = Int32.ofNat (stW W c k W.2.2.2.length).length) (h8 : meS W ((stW W c k W.2.2.2.length).filter (akB W)) ≤ 8) (kk : ∀ τ, JwF σ τ → NeS W τ → Rw0 75 τ → K (.inl (some (.int (Int32.ofNat (bdN W wy c k))))) τ) : C_X10_judgeRow_0 Z (d + 7) σ (Int32.ofNat c) K := by
  have kl : ∀ p, p < plW W.2.1 c → k p < W.1.length := fun p hp => (ka.2 p hp).2
  have ml := h.1.2.2.2.2.1.2.1
  have sA : SpA 75 := Or.inr rfl
  have hA : ∀ x ∈ stW W c k W.2.2.2.length, x ∈ ftL W c k := fun x hx => st_in hx
  have nd : (stW W c k W.2.2.2.length).Nodup := by
    rw [st_ft]
    exact List.Pairwise.sublist List.filter_sublist (ft_nd W c k)
  have hL : (stW W c k W.2.2.2.length).length ≤ 120 := by
    have : (stW W c k W.2.2.2.length).length ≤ (ftL W c k).length := by
      rw [st_ft]
      exact List.length_filter_le ..
    have := ftL_len W c k
    omega
  have cl8 : (caQ W k (stW W c k W.2.2.2.length)).length ≤ 8 := by
    rw [caQ_len, me_sum h.1 kl _ hA]
    exact h8
  generalize eL : stW W c k W.2.2.2.length = L at *
  refine T_X10_judgeRow_0 h.1.1 (cl_empty9 sA h.1.1 (fun τ1 f1 S1 => ?_))
  have lp : ∀ (r i : Nat) (τ : Sg), i + r = L.length → XF (fun a => a = 73 ∨ (75 ≤ a ∧ a ≤ 80)) σ τ → SpS 75 (caQ W k (L.take i)) τ → (∀ i', i' < i → τ.i 73 i' = Int32.ofNat (caQ W k (L.take i')).length) → C_X10_judgeRow_9 Z (d + 7) τ (Int32.ofNat c) (Int32.ofNat i) K := by
    intro r
    induction r with
    | zero =>
      intro i τ hi g S h73
      have ei : i = L.length := by omega
      subst ei
      rw [List.take_length] at S
      have hq : QwS C W wy a0 τ := h.xf g (fun a q => by omega)
      have H : JrS C W wy a0 c k L τ := by
        refine ⟨hq, ne.xf g (fun a q => by omega), ka.xf g (by omega), ⟨fun i y hy => ?_, ?_⟩, S, h73⟩
        · rw [(g.2.2 72 (by omega)).1]
          exact hr i y hy
        · rw [(g.2.2 67 (by omega)).1]
          exact e9
      refine T_X10_judgeRow_9 hq.1.1 ?_
      rw [H.2.2.2.1.2, oN_le (by omega) (by omega)]
      refine ⟨fun _ => ?_, fun z => absurd (Nat.le_refl _) z⟩
      have r1 : Rw0 75 τ := by
        unfold Rw0
        rw [(g.2.2 82 (by omega)).2]
        exact r0
      refine cl_begin9 sA hq.1.1 S r1 (fun υ g2 Q => ?_)
      have gj : JwF σ υ := NhE.tr (g.he (fun a q => by omega) (by omega)) (g2.1.he (fun a q => by omega) (by omega))
      refine jr_57 hT hc hA nd hL υ (fun ω r fo Ho ro er => ?_) 1000000 0 0 (fun _ => True) υ (by omega) (NhE.refl _ _) (H.nx g2) Q SnC.zero (fun v _ z => absurd trivial z) (Or.inl ⟨rfl, fun _ v _ z => absurd trivial z⟩)
      have : r = bdN W wy c k := by
        rw [er]
        unfold bdN e1P e2P
        rw [eL]
      rw [this]
      exact kk ω (gj.tr fo) Ho.2.1 ro
    | succ r ih =>
      intro i τ hi g S h73
      have hq : QwS C W wy a0 τ := h.xf g (fun a q => by omega)
      have hi' := List.getElem?_eq_getElem (show i < L.length by omega)
      have ei : τ.i 72 i = Int32.ofNat L[i] := by
        rw [(g.2.2 72 (by omega)).1]
        exact hr i _ hi'
      have e9' : τ.i 67 9 = Int32.ofNat L.length := by
        rw [(g.2.2 67 (by omega)).1]
        exact e9
      have lm : L[i] ∈ L := List.getElem_mem _
      obtain ⟨j, x, ej, hx, -, ec, -⟩ := ft_at h.1 kl (hA _ lm)
      obtain ⟨s1, s2, s3⟩ := spM_at hx
      have et : L.take (i + 1) = L.take i ++ [L[i]] := by
        rw [List.take_succ, hi']
        rfl
      have ea : caQ W k (L.take (i + 1)) = caQ W k (L.take i) ++ asQ (blW W.1) k x.1.2.2.2.1 x.1.2.2.2.2.1 := by
        rw [et, caQ_app]
        congr 1
        show asQ (blW W.1) k (spM W.2.2.2 L[i]) (tsM W.2.2.2 L[i]) ++ [] = _
        rw [ej, s1, s2, List.append_nil]
      have le : (caQ W k (L.take (i + 1))).length ≤ 8 := by
        have : (caQ W k (L.take (i + 1))).length ≤ (caQ W k L).length := by
          conv => rhs; rw [← List.take_append_drop (i + 1) L, caQ_app, List.length_append]
          omega
        omega
      rw [ea, List.length_append] at le
      refine T_X10_judgeRow_9 hq.1.1 ?_
      rw [e9', oN_le (by omega) (by omega), oN_t (by omega), ei, ej]
      refine ⟨fun z => absurd z (by omega), fun _ => ⟨ib_oN (by omega) (by decide), ?_⟩⟩
      refine cl_cutBy (pl := plW W.2.1 c) sA (by omega) hx (by rw [ec, Int.toNat_natCast]) hq.1 (ka.xf g (by omega)) S (by omega) (fun υ f2 S2 => ⟨ib_oN (by omega) (by decide), ?_⟩)
      rw [oN_1]
      have xw : XF (fun a => a = 73 ∨ (75 ≤ a ∧ a ≤ 80)) υ (υ.wi 73 i (Int32.ofNat (caQ W k (L.take i)).length)) := (XF.refl _ _).wi (by omega)
      have x2 : XF (fun a => a = 73 ∨ (75 ≤ a ∧ a ≤ 80)) τ υ := f2.1.mono (fun a q => by omega)
      refine ih (i + 1) _ (by omega) ((g.tr x2).tr xw) ?_ (fun i' hi' => ?_)
      · rw [ea]
        exact S2.xf ((XF.refl (fun a => a = 73) υ).wi rfl) (fun a q => by omega)
      · by_cases q : i' = i
        · rw [q, wi_at]
        · rw [wi_ne (by omega), (f2.1.2.2 73 (by omega)).1]
          exact h73 i' (by omega)
  exact lp L.length 0 τ1 (by omega) (f1.1.mono (fun a q => by omega)) S1 (fun i' z => absurd z (Nat.not_lt_zero _))
end JROW

/-! THE CLASS: a call, judged -/
theorem jdF_ps {W : Wld} {wy c : Nat} : ∀ f r sm, jdF W wy c f r true sm = (-1, none)
  | 0, r, sm => rfl
  | f + 1, r, sm => by
    rw [jdF]
    split
    · exact jdF_ps f _ _
    · split
      · exact jdF_ps f _ _
      · rfl
/-- what was judged is right -/
def WhS (W : Wld) (wy : Nat) (σ : Sg) : Prop := Rw0 75 σ ∧ (∀ c, c < W.2.1.length → σ.i 68 c = σ.i 1 16 → σ.i 69 c = Int32.ofInt (jdW W wy c).1 ∧ ∀ p, p < 3 → σ.i 70 (3 * c + p) = Int32.ofInt (rwO W (plW W.2.1 c) (jdW W wy c).2 p)) ∧ ∀ c, c < 24 → (σ.i 68 c).toInt ≤ (σ.i 1 16).toInt
section JDG
variable {Z : zT} {d A u : Nat} {σ σ0 τ υ : Sg} {K : kS} {C : Nat × Nat × Nat × Nat} {W : Wld} {wy a0 kA oA c m n : Nat} {k : Nat → Nat} {L : List Nat}
/-- to the r-th row -/
theorem cl_goRow {r : Nat} (h : QwS C W wy a0 σ) (hc : c < W.2.1.length) (hr : r < 13824) (hm : 1 ≤ (mkW W.1).length) (kk : ∀ τ, XF (fun a => a = 71) σ τ → KaS W 71 (plW W.2.1 c) (rkK W (plW W.2.1 c) r) τ → K (.inl none) τ) : C_X10_goToRow_0 Z (d + 1) σ (Int32.ofNat r) (Int32.ofNat (plW W.2.1 c)) K := by
  obtain ⟨c24, ec, p1, p3⟩ := h.cx hc
  have m24 := mk_24 h
  have e14 := h.2.2.2.1.1.1
  have lp : ∀ (n : Nat) (τ : Sg), n ≤ plW W.2.1 c → XF (fun a => a = 71) σ τ → (∀ p, n ≤ p → p < plW W.2.1 c → τ.i 71 p = Int32.ofNat (rkK W (plW W.2.1 c) r p)) → C_X10_goToRow_7 Z (d + 1) τ (Int32.ofNat (r / (mkW W.1).length ^ (plW W.2.1 c - n))) (Int32.ofNat n - 1) K := by
    intro n
    induction n with
    | zero =>
      intro τ hn g hw
      refine T_X10_goToRow_7 (g.fx h.1.1) ⟨fun _ => kk τ g ⟨⟨3, by omega, (g.fx h.1.1).s (a := 71) t0_71⟩, fun p hp => ⟨hw p (Nat.zero_le _) hp, ?_⟩⟩, fun z => absurd (by decide) z⟩
      unfold rkK
      rw [if_pos hp, List.getD_eq_getElem?_getD, List.getElem?_eq_getElem (Nat.mod_lt _ (by omega))]
      exact mk_lt (List.getElem_mem _)
    | succ n ih =>
      intro τ hn g hw
      have q : r / (mkW W.1).length ^ (plW W.2.1 c - (n + 1)) < 13824 := Nat.lt_of_le_of_lt (Nat.div_le_self ..) hr
      generalize eq : r / (mkW W.1).length ^ (plW W.2.1 c - (n + 1)) = v at *
      have ml := Nat.mod_lt v (show 0 < (mkW W.1).length by omega)
      have e14' : τ.i 1 14 = Int32.ofNat (mkW W.1).length := by
        rw [(g.2.2 1 (by decide)).1]
        exact e14
      have e38 : τ.i 38 (v % (mkW W.1).length) = Int32.ofNat (rkK W (plW W.2.1 c) r n) := by
        rw [(g.2.2 38 (by decide)).1]
        have := h.2.2.2.1.1.2 _ _ (List.getElem?_eq_getElem ml)
        rw [this]
        congr 1
        unfold rkK
        rw [if_pos (by omega), show plW W.2.1 c - 1 - n = plW W.2.1 c - (n + 1) by omega, eq, List.getD_eq_getElem?_getD, List.getElem?_eq_getElem ml]
        rfl
      have en : Int32.ofNat (n + 1) - 1 = Int32.ofNat n := oN_p1 (m := n + 1) (by omega)
      refine T_X10_goToRow_7 (g.fx h.1.1) ?_
      rw [en, e14', show Int32.ofNat n < 0 ↔ n < 0 from oN_lt (b := 0) (by omega) (by decide), show Int32.ofNat (mkW W.1).length ≤ 0 ↔ (mkW W.1).length ≤ 0 from oN_le (b := 0) (by omega) (by decide), show Int32.ofNat (mkW W.1).length = 0 ↔ (mkW W.1).length = 0 from oN_eq (b := 0) (by omega) (by decide), oN_irm (by omega) (by omega), oN_div (by omega) (by omega), oN_t (by omega), oN_t (by omega), e38]
      refine ⟨fun z => absurd z (by omega), fun _ => ⟨fun z => absurd z (by omega), fun _ => ⟨by omega, ib_oN (by omega) (by decide), ib_oN (by omega) (by decide), by omega, ?_⟩⟩⟩
      have := ih (τ.wi 71 n (Int32.ofNat (rkK W (plW W.2.1 c) r n))) (by omega) (g.wi rfl) (fun p h1 h2 => ?_)
      · have ed : r / (mkW W.1).length ^ (plW W.2.1 c - n) = v / (mkW W.1).length := by
          rw [← eq, Nat.div_div_eq_div_mul, ← Nat.pow_succ, show (plW W.2.1 c - (n + 1)).succ = plW W.2.1 c - n by omega]
        rw [ed] at this
        rw [show Int32.ofNat n + (-1) = Int32.ofNat n - 1 from (Int32.sub_eq_add_neg _ _).symm]
        exact this
      · by_cases e : p = n
        · rw [e, wi_at]
        · rw [wi_ne (by omega)]
          exact hw p (by omega) h2
  refine T_X10_goToRow_0 h.1.1 ?_
  have go := lp (plW W.2.1 c) σ (Nat.le_refl _) (XF.refl _ _) (fun p h1 h2 => by omega)
  have e : r / (mkW W.1).length ^ (plW W.2.1 c - plW W.2.1 c) = r := by
    rw [show plW W.2.1 c - plW W.2.1 c = 0 by omega, Nat.pow_zero, Nat.div_one]
  rw [e] at go
  exact go
/-- what judging call c writes -/
def JcF (c : Nat) (σ τ : Sg) : Prop := JdF σ τ ∧ (∀ c', c' ≠ c → τ.i 68 c' = σ.i 68 c' ∧ τ.i 69 c' = σ.i 69 c') ∧ ∀ j, j / 3 ≠ c → τ.i 70 j = σ.i 70 j
theorem JcF.tr (h : JcF c σ τ) (g : JcF c τ υ) : JcF c σ υ := ⟨h.1.tr g.1, fun c' q => ⟨(g.2.1 c' q).1.trans (h.2.1 c' q).1, (g.2.1 c' q).2.trans (h.2.1 c' q).2⟩, fun j q => (g.2.2 j q).trans (h.2.2 j q)⟩
theorem XF.jc {E : Nat → Prop} (c : Nat) (h : XF E σ τ) (hE : ∀ a, E a → (47 ≤ a ∧ a ≤ 55) ∨ (67 ≤ a ∧ a ≤ 82 ∧ a ≠ 68 ∧ a ≠ 69 ∧ a ≠ 70)) : JcF c σ τ := ⟨h.he (fun a q => by have := hE a q; omega) (fun q => by have := hE _ q; omega), fun c' _ => ⟨congrFun (h.2.2 68 (fun q => by have := hE _ q; omega)).1 c', congrFun (h.2.2 69 (fun q => by have := hE _ q; omega)).1 c'⟩, fun j _ => congrFun (h.2.2 70 (fun q => by have := hE _ q; omega)).1 j⟩
theorem NhE.jc {X : Nat → Prop} (c : Nat) (g : NhE X σ τ) (F : FX ΦC σ.sh σ.r) (st : sqA σ = 47 ∨ 102 ≤ sqA σ) (hX : ∀ a, X a → 67 ≤ a ∧ a ≤ 82 ∧ a ≠ 68 ∧ a ≠ 69 ∧ a ≠ 70) : JcF c σ τ := ⟨g.mono (fun a q => by have := hX a q; omega), fun c' _ => ⟨congrFun (g.row F st (a := 68) ⟨by omega, fun q => by have := hX _ q; omega⟩).1 c', congrFun (g.row F st (a := 69) ⟨by omega, fun q => by have := hX _ q; omega⟩).1 c'⟩, fun j _ => congrFun (g.row F st (a := 70) ⟨by omega, fun q => by have := hX _ q; omega⟩).1 j⟩
/-- the kinds of the row are kept -/
theorem cl_keepKinds {w : Int} {o : Option Nat} (h : QwS C W wy a0 σ) (hc : c < W.2.1.length) (hw : -1 ≤ w ∧ w ≤ 2) (e69 : σ.i 69 c = Int32.ofInt w) (ho : (0 < w ∧ ∃ r, o = some r ∧ ∀ p, p < plW W.2.1 c → σ.i 71 p = Int32.ofNat (rkK W (plW W.2.1 c) r p)) ∨ (w ≤ 0 ∧ o = none)) (kk : ∀ τ, JcF c σ τ → XF (fun a => a = 70) σ τ → (∀ p, p < 3 → τ.i 70 (3 * c + p) = Int32.ofInt (rwO W (plW W.2.1 c) o p)) → K (.inl none) τ) : C_X10_keepKinds_0 Z (d + 1) σ (Int32.ofNat c) K := by
  obtain ⟨c24, ec, p1, p3⟩ := h.cx hc
  have sg : Int32.ofInt w ≤ 0 ↔ w ≤ 0 := by
    have : w = -1 ∨ w = 0 ∨ w = 1 ∨ w = 2 := by omega
    rcases this with rfl | rfl | rfl | rfl <;> decide
  have lp : ∀ (r p : Nat) (τ : Sg), p + r = 3 → XF (fun a => a = 70) σ τ → (∀ j, j / 3 ≠ c → τ.i 70 j = σ.i 70 j) → (∀ p', p' < p → τ.i 70 (3 * c + p') = Int32.ofInt (rwO W (plW W.2.1 c) o p')) → C_X10_keepKinds_2 Z (d + 1) τ (Int32.ofNat c) (Int32.ofNat p) K := by
    intro r
    induction r with
    | zero =>
      intro p τ hp g g7 hd
      have ep : p = 3 := by omega
      subst ep
      exact T_X10_keepKinds_2 (g.fx h.1.1) ⟨fun _ => kk τ ⟨g.he (fun a q => by omega) (by omega), fun c' _ => ⟨congrFun (g.2.2 68 (by decide)).1 c', congrFun (g.2.2 69 (by decide)).1 c'⟩, g7⟩ g hd, fun z => absurd (by decide) z⟩
    | succ r ih =>
      intro p τ hp g g7 hd
      have e69' : τ.i 69 c = Int32.ofInt w := by
        rw [(g.2.2 69 (by decide)).1]
        exact e69
      have e31 : τ.i 31 c = Int32.ofNat (plW W.2.1 c) := by
        rw [(g.2.2 31 (by decide)).1]
        exact ec
      have e71 : τ.i 71 p = σ.i 71 p := by rw [(g.2.2 71 (by decide)).1]
      have go : ∀ v : Int32, v = Int32.ofInt (rwO W (plW W.2.1 c) o p) → C_X10_keepKinds_2 Z (d + 1) (τ.wi 70 (3 * c + p) v) (Int32.ofNat c) (Int32.ofNat (p + 1)) K := fun v ev => by
        refine ih (p + 1) _ (by omega) (g.wi rfl) (fun j hj => ?_) (fun p' hp' => ?_)
        · rw [wi_ne (by omega)]
          exact g7 j hj
        · by_cases e : p' = p
          · rw [e, wi_at]
            exact ev
          · rw [wi_ne (by omega)]
            exact hd p' (by omega)
      refine T_X10_keepKinds_2 (g.fx h.1.1) ?_
      rw [show (3 : Int32) ≤ Int32.ofNat p ↔ 3 ≤ p from oN_le (a := 3) (by decide) (by omega), oN_t (by omega), e69', sg, e31, oN_le (by omega) (by omega), show (3 : Int32) = Int32.ofNat 3 from rfl, oN_mul, oN_add, oN_t (by omega), oN_t (by omega), show c * 3 + p = 3 * c + p by omega, oN_1, e71]
      refine ⟨fun z => absurd z (by omega), fun _ => ⟨ib_oN c24 (by decide), fun z => ⟨ib_oN (by omega) (by decide), go _ ?_⟩, fun z => ⟨ib_oN c24 (by decide), fun z2 => ⟨ib_oN (by omega) (by decide), go _ ?_⟩, fun z2 => ⟨ib_oN (by omega) (by decide), ib_oN (by omega) (by decide), go _ ?_⟩⟩⟩⟩
      · rcases ho with q | q
        · omega
        · rw [q.2]
          rfl
      · rcases ho with ⟨-, r, e, -⟩ | q
        · rw [e]
          show _ = Int32.ofInt (if p < plW W.2.1 c then _ else -1)
          rw [if_neg (by omega)]
          rfl
        · omega
      · rcases ho with ⟨-, r, e, e2⟩ | q
        · rw [e, e2 p (by omega)]
          show _ = Int32.ofInt (if p < plW W.2.1 c then (rkK W (plW W.2.1 c) r p : Int) else -1)
          rw [if_pos (by omega)]
          rfl
        · omega
  exact T_X10_keepKinds_0 h.1.1 (lp 3 0 σ (by omega) (XF.refl _ _) (fun _ _ => rfl) (fun p' z => absurd z (Nat.not_lt_zero _)))
theorem me_le (h : SkR C W a0 σ) (hk : ∀ p, p < plW W.2.1 c → k p < W.1.length) : meS W ((stW W c k W.2.2.2.length).filter (akB W)) ≤ 1080 := by
  rw [← me_sum h hk _ (fun m hm => st_in hm)]
  have : ∀ L : List Nat, (∀ m ∈ L, m ∈ ftL W c k) → (L.map (akL W k)).sum ≤ 9 * L.length := by
    intro L
    induction L with
    | nil => intro _; exact Nat.zero_le _
    | cons m L ih =>
      intro hL
      have := (akL_me h hk (hL m (List.mem_cons_self ..))).2.2
      have := ih (fun x hx => hL x (List.mem_cons_of_mem _ hx))
      rw [List.map_cons, List.sum_cons, List.length_cons]
      omega
  have l1 := this _ (fun m hm => st_in hm)
  have l2 : (stW W c k W.2.2.2.length).length ≤ (ftL W c k).length := by
    rw [st_ft]
    exact List.length_filter_le ..
  have l3 := ftL_len W c k
  have l4 := h.2.2.2.2.1.2.1
  omega
theorem bd_le (W : Wld) (wy c : Nat) (k : Nat → Nat) : bdN W wy c k ≤ 2 := by
  unfold bdN
  split
  · omega
  · split <;> omega
/-- the loop over rows -/
theorem jd_74 (hT : TrW W.1) (hc : c < W.2.1.length) (σ0 : Sg) (R : Nat) (hR : R = (mkW W.1).length ^ plW W.2.1 c) (hR2 : R ≤ 13824) (kk : ∀ τ, JcF c σ0 τ → NeS W τ → Rw0 75 τ → τ.i 68 c = σ0.i 68 c → τ.i 69 c = Int32.ofInt (jdW W wy c).1 → (∀ p, p < 3 → τ.i 70 (3 * c + p) = Int32.ofInt (rwO W (plW W.2.1 c) (jdW W wy c).2 p)) → K (.inl (some (.int (Int32.ofInt (jdW W wy c).1)))) τ) : ∀ (f r sm : Nat) (τ : Sg), r + f = R → sm ≤ r → JcF c σ0 τ → QwS C W wy a0 τ → NeS W τ → Rw0 75 τ → τ.i 68 c = σ0.i 68 c → τ.i 69 c = 0 → jdF W wy c f r false sm = jdW W wy c → C_X10_judge_74 Z (d + 8) τ (Int32.ofNat c) (Int32.ofNat R) (Int32.ofNat sm) (Int32.ofNat r) K := by
  -- the end
  have fin : ∀ (w : Int) (o : Option Nat) (τ : Sg), (-1 ≤ w ∧ w ≤ 2) → JcF c σ0 τ → QwS C W wy a0 τ → NeS W τ → Rw0 75 τ → τ.i 68 c = σ0.i 68 c → τ.i 69 c = Int32.ofInt w → ((0 < w ∧ ∃ r, o = some r ∧ ∀ p, p < plW W.2.1 c → τ.i 71 p = Int32.ofNat (rkK W (plW W.2.1 c) r p)) ∨ (w ≤ 0 ∧ o = none)) → jdW W wy c = (w, o) → C_X10_keepKinds_0 Z (d + 7) τ (Int32.ofNat c) (yN K fun τ1 => ib (Int32.ofNat c) 24 ∧ K (.inl (some (.int (τ1.i 69 (Int32.ofNat c).toNatClampNeg)))) τ1) := fun w o τ hw f hq ne r0 e68 e69 ho ej => by
    obtain ⟨c24, ec, p1, p3⟩ := hq.cx hc
    refine cl_keepKinds hq hc hw e69 ho (fun υ g x hk => ⟨ib_oN c24 (by decide), ?_⟩)
    have e69' : υ.i 69 c = Int32.ofInt w := by
      rw [(x.2.2 69 (by decide)).1]
      exact e69
    rw [oN_t (by omega), e69']
    have := kk υ (f.tr g) (ne.xf x (fun a q => by omega)) (r0.xf x (fun a q => by omega)) (by rw [(x.2.2 68 (by decide)).1]; exact e68) (by rw [ej]; exact e69') (by rw [ej]; exact hk)
    rw [ej] at this
    exact this
  -- a row that is not 0 ends it
  have stop : ∀ (w : Int) (o : Option Nat) (τ : Sg) (sm r : Nat), (-1 ≤ w ∧ w ≤ 2) → w ≠ 0 → JcF c σ0 τ → QwS C W wy a0 τ → NeS W τ → Rw0 75 τ → τ.i 68 c = σ0.i 68 c → τ.i 69 c = Int32.ofInt w → ((0 < w ∧ ∃ r, o = some r ∧ ∀ p, p < plW W.2.1 c → τ.i 71 p = Int32.ofNat (rkK W (plW W.2.1 c) r p)) ∨ (w ≤ 0 ∧ o = none)) → jdW W wy c = (w, o) → C_X10_judge_74 Z (d + 8) τ (Int32.ofNat c) (Int32.ofNat R) (Int32.ofNat sm) (Int32.ofNat r) K := fun w o τ sm r hw w0 f hq ne r0 e68 e69 ho ej => by
    obtain ⟨c24, ec, p1, p3⟩ := hq.cx hc
    have nz : ¬ Int32.ofInt w = 0 := by
      have : w = -1 ∨ w = 1 ∨ w = 2 := by omega
      rcases this with rfl | rfl | rfl <;> decide
    have F := fin w o τ hw f hq ne r0 e68 e69 ho ej
    refine T_X10_judge_74 hq.1.1 ⟨fun _ => F, fun _ => ⟨ib_oN c24 (by decide), fun _ => F, fun z => absurd ?_ nz⟩⟩
    rw [oN_t (by omega), e69] at z
    exact z
  intro f
  induction f with
  | zero =>
    intro r sm τ hr hsm g hq ne r0 e68 e69 ej
    have er : r = R := by omega
    subst er
    refine T_X10_judge_74 hq.1.1 ⟨fun _ => fin 0 none τ (by omega) g hq ne r0 e68 e69 (Or.inr ⟨by omega, rfl⟩) ej.symm, fun z => absurd (Int32.le_refl _) z⟩
  | succ f ih =>
    intro r sm τ hr hsm g hq ne r0 e68 e69 ej
    obtain ⟨c24, ec, p1, p3⟩ := hq.cx hc
    have m1 : 1 ≤ (mkW W.1).length := Nat.one_le_iff_ne_zero.mpr (fun z => by
      rw [z, Nat.zero_pow (by omega)] at hR
      omega)
    refine T_X10_judge_74 hq.1.1 ?_
    rw [oN_le (by omega) (by omega), oN_t (by omega), e69, ec]
    refine ⟨fun z => absurd z (by omega), fun _ => ⟨ib_oN c24 (by decide), fun z => absurd rfl z, fun _ => ⟨ib_oN c24 (by decide), ?_⟩⟩⟩
    refine cl_goRow hq hc (by omega) m1 (fun τ1 x1 ka => ?_)
    have hq1 := hq.xf x1 (fun a q => by omega)
    have kl : ∀ p, p < plW W.2.1 c → rkK W (plW W.2.1 c) r p < W.1.length := fun p hp => (ka.2 p hp).2
    refine cl_gather hq1 hc ka (fun τ2 x2 g67 r72 e9 => ?_)
    have hq2 := hq1.xf x2 (fun a q => by omega)
    have ka2 : KaS W 71 (plW W.2.1 c) (rkK W (plW W.2.1 c) r) τ2 := ka.xf x2 (by omega)
    have g2 : JcF c σ0 τ2 := (g.tr (x1.jc c (fun a q => by omega))).tr (x2.jc c (fun a q => by omega))
    have ne2 : NeS W τ2 := (ne.xf x1 (fun a q => by omega)).xf x2 (fun a q => by omega)
    have r2 : Rw0 75 τ2 := (r0.xf x1 (fun a q => by omega)).xf x2 (fun a q => by omega)
    have e68' : τ2.i 68 c = σ0.i 68 c := by
      rw [(x2.2.2 68 (by omega)).1, (x1.2.2 68 (by omega)).1]
      exact e68
    have me : meS W ((stW W c (rkK W (plW W.2.1 c) r) W.2.2.2.length).filter (akB W)) = meR W c r := rfl
    have mel := me_le hq1.1 kl
    rw [me] at mel ⊢
    -- by what is asked
    have step : ∀ s1 : Nat, s1 = (if 0 < meR W c r then 1 else 0) → C_X10_judge_122 Z (d + 8) τ2 (Int32.ofNat c) (Int32.ofNat R) (Int32.ofNat r) (Int32.ofNat (meR W c r)) (Int32.ofNat sm) (Int32.ofNat s1) K := fun s1 e1 => by
      have s1l : s1 ≤ 1 := by
        rw [e1]
        split <;> omega
      have esm : (if 0 < meR W c r then sm + 1 else sm) = sm + s1 := by
        rw [e1]
        split <;> rfl
      rw [jdF, esm] at ej
      -- passed over
      have over : (8 < meR W c r ∨ (0 < meR W c r ∧ 200 < sm + 1)) → C_X10_judge_143 Z (d + 8) τ2 (Int32.ofNat c) (Int32.ofNat R) (Int32.ofNat (sm + s1)) (Int32.ofNat r) K := fun ov => by
        rw [if_pos ov, jdF_ps] at ej
        refine T_X10_judge_143 hq2.1.1 (T_X10_judge_148 hq2.1.1 ⟨fun z => absurd z (by decide), fun _ => ⟨ib_oN c24 (by decide), ?_⟩⟩)
        rw [oN_t (by omega), oN_1]
        have xw : XF (fun a => a = 69) τ2 (τ2.wi 69 c (-1)) := (XF.refl _ _).wi rfl
        refine stop (-1) none _ (sm + s1) (r + 1) (by omega) (by omega) (g2.tr ⟨xw.he (fun a q => by omega) (by omega), fun c' hc' => ⟨wi_ne (by omega), wi_ne (by omega)⟩, fun j _ => wi_ne (by omega)⟩) (hq2.xf xw (fun a q => by omega)) (ne2.xf xw (fun a q => by omega)) (r2.xf xw (fun a q => by omega)) ((wi_ne (by omega)).trans e68') (wi_at ..) (Or.inr ⟨by omega, rfl⟩) ej.symm
      -- judged
      have judge : ¬ (8 < meR W c r ∨ (0 < meR W c r ∧ 200 < sm + 1)) → C_X10_judge_147 Z (d + 8) τ2 (Int32.ofNat c) (Int32.ofNat R) (Int32.ofNat (sm + s1)) (Int32.ofNat r) K := fun no => by
        rw [if_neg no] at ej
        refine T_X10_judge_147 hq2.1.1 (T_X10_judge_148 hq2.1.1 ⟨fun _ => ?_, fun z => absurd rfl z⟩)
        refine cl_judgeRow hT hc hq2 ne2 r2 ka2 r72 e9 (by rw [me]; omega) (fun τ3 x3 ne3 r3 => ⟨ib_oN c24 (by decide), ?_⟩)
        rw [oN_t (by omega), oN_1]
        have bl := bd_le W wy c (rkK W (plW W.2.1 c) r)
        have hq3 := hq2.he ne2.sq x3 (fun a q => by omega)
        have xw : XF (fun a => a = 69) τ3 (τ3.wi 69 c (Int32.ofNat (bdN W wy c (rkK W (plW W.2.1 c) r)))) := (XF.refl _ _).wi rfl
        have g3 : JcF c σ0 (τ3.wi 69 c (Int32.ofNat (bdN W wy c (rkK W (plW W.2.1 c) r)))) := (g2.tr (NhE.jc c x3 hq2.1.1 ne2.sq (fun a q => by omega))).tr ⟨xw.he (fun a q => by omega) (by omega), fun c' hc' => ⟨wi_ne (by omega), wi_ne (by omega)⟩, fun j _ => wi_ne (by omega)⟩
        have e68'' : (τ3.wi 69 c (Int32.ofNat (bdN W wy c (rkK W (plW W.2.1 c) r)))).i 68 c = σ0.i 68 c := by
          rw [wi_ne (by omega), (NhE.row x3 hq2.1.1 ne2.sq (a := 68) (by omega)).1]
          exact e68'
        by_cases b0 : bdN W wy c (rkK W (plW W.2.1 c) r) = 0
        · rw [if_pos b0] at ej
          refine ih (r + 1) (sm + s1) _ (by omega) (by omega) g3 (hq3.xf xw (fun a q => by omega)) (ne3.xf xw (fun a q => by omega)) (r3.xf xw (fun a q => by omega)) e68'' ?_ ej
          rw [wi_at, b0]
          rfl
        · rw [if_neg b0, if_neg (by decide), if_neg (by decide)] at ej
          refine stop (bdN W wy c (rkK W (plW W.2.1 c) r) : Int) (some r) _ (sm + s1) (r + 1) (by omega) (by omega) g3 (hq3.xf xw (fun a q => by omega)) (ne3.xf xw (fun a q => by omega)) (r3.xf xw (fun a q => by omega)) e68'' (wi_at ..) (Or.inl ⟨by omega, r, rfl, fun p hp => ?_⟩) ej.symm
          rw [wi_ne (by omega), (NhE.row x3 hq2.1.1 ne2.sq (a := 71) (by omega)).1]
          exact (ka2.2 p hp).1
      refine T_X10_judge_122 hq2.1.1 ?_
      rw [oN_add, show (8 : Int32) < Int32.ofNat (meR W c r) ↔ 8 < meR W c r from oN_lt (a := 8) (by decide) (by omega), show Int32.ofNat (meR W c r) ≤ 0 ↔ meR W c r ≤ 0 from oN_le (b := 0) (by omega) (by decide), show Int32.ofNat (sm + s1) ≤ 200 ↔ sm + s1 ≤ 200 from oN_le (b := 200) (by omega) (by decide)]
      refine ⟨fun z => over (Or.inl z), fun z => ⟨fun z2 => judge ?_, fun z2 => ⟨fun z3 => judge ?_, fun z3 => over (Or.inr ?_)⟩⟩⟩
      · omega
      · rw [if_pos (by omega)] at e1
        omega
      · rw [if_pos (by omega)] at e1
        omega
    show (Int32.ofNat (meR W c r) ≤ 0 → _) ∧ (¬ Int32.ofNat (meR W c r) ≤ 0 → _)
    rw [show Int32.ofNat (meR W c r) ≤ 0 ↔ meR W c r ≤ 0 from oN_le (b := 0) (by omega) (by decide)]
    refine ⟨fun z => step 0 ?_, fun z => step 1 ?_⟩
    · rw [if_neg (by omega)]
    · rw [if_pos (by omega)]
theorem cl_judge (hT : TrW W.1) (hc : c < W.2.1.length) (h : QwS C W wy a0 σ) (ne : NeS W σ) (wh : WhS W wy σ) (kk : ∀ τ, JdF σ τ → NeS W τ → WhS W wy τ → τ.i 68 c = τ.i 1 16 → K (.inl (some (.int (Int32.ofInt (jdW W wy c).1)))) τ) : C_X10_judge_0 Z (d + 8) σ (Int32.ofNat c) K := by
  obtain ⟨c24, ec, p1, p3⟩ := h.cx hc
  have m24 := mk_24 h
  refine T_X10_judge_0 h.1.1 ?_
  rw [oN_t (by omega)]
  refine ⟨ib_oN c24 (by decide), fun z => ⟨ib_oN c24 (by decide), ?_⟩, fun z => ⟨ib_oN c24 (by decide), ?_⟩⟩
  · rw [(wh.2.1 c hc z).1]
    exact kk σ (NhE.refl _ _) ne wh z
  · have x0 : XF (fun a => a = 68) σ (σ.wi 68 c (σ.i 1 16)) := (XF.refl _ _).wi rfl
    have h0 := h.xf x0 (fun a q => by omega)
    have pw : ∀ n, n ≤ 3 → (mkW W.1).length ^ n ≤ 13824 := fun n hn => by
      refine Nat.le_trans (Nat.pow_le_pow_left m24 n) ?_
      have : (24 : Nat) ^ n ≤ 24 ^ 3 := Nat.pow_le_pow_right (by decide) hn
      exact Nat.le_trans this (by decide)
    have lp : ∀ r n, n + r = plW W.2.1 c → C_X10_judge_33 Z (d + 8) (σ.wi 68 c (σ.i 1 16)) (Int32.ofNat c) (Int32.ofNat ((mkW W.1).length ^ n)) (Int32.ofNat n) K := by
      intro r
      induction r with
      | zero =>
        intro n hn
        have en : n = plW W.2.1 c := by omega
        subst en
        refine T_X10_judge_33 h0.1.1 ?_
        rw [oN_t (by omega), show (σ.wi 68 c (σ.i 1 16)).i 31 c = Int32.ofNat (plW W.2.1 c) from (wi_ne (by omega)).trans ec]
        refine ⟨ib_oN c24 (by decide), fun _ => ⟨ib_oN c24 (by decide), ?_⟩, fun z => absurd (Int32.le_refl _) z⟩
        have x1 : XF (fun a => a = 69) (σ.wi 68 c (σ.i 1 16)) ((σ.wi 68 c (σ.i 1 16)).wi 69 c 0) := (XF.refl _ _).wi rfl
        have j0 : JcF c σ ((σ.wi 68 c (σ.i 1 16)).wi 69 c 0) := ⟨NhE.tr (x0.he (fun a q => by omega) (by omega)) (x1.he (fun a q => by omega) (by omega)), fun c' hc' => ⟨(wi_ne (by omega)).trans (wi_ne (by omega)), (wi_ne (by omega)).trans (wi_ne (by omega))⟩, fun j _ => (wi_ne (by omega)).trans (wi_ne (by omega))⟩
        refine jd_74 hT hc ((σ.wi 68 c (σ.i 1 16)).wi 69 c 0) _ rfl (pw _ p3) (fun τ f n' r' e68 e69 e70 => ?_) ((mkW W.1).length ^ plW W.2.1 c) 0 0 _ (by omega) (by omega) ⟨NhE.refl _ _, fun _ _ => ⟨rfl, rfl⟩, fun _ _ => rfl⟩ (h0.xf x1 (fun a q => by omega)) ((ne.xf x0 (fun a q => by omega)).xf x1 (fun a q => by omega)) ((wh.1.xf x0 (fun a q => by omega)).xf x1 (fun a q => by omega)) rfl (wi_at ..) rfl
        have ft := j0.tr f
        have v16 : τ.i 1 16 = σ.i 1 16 := by rw [(NhE.row ft.1 h.1.1 ne.sq (a := 1) (by omega)).1]
        have ev : τ.i 68 c = τ.i 1 16 := by
          rw [e68, v16, wi_ne (by omega), wi_at]
        refine kk τ ft.1 n' ⟨r', fun c' hc' e => ?_, fun c' hc' => ?_⟩ ev
        case refine_2 =>
          by_cases q : c' = c
          · rw [q, ev]
            exact Int.le_refl _
          · rw [(ft.2.1 c' q).1, v16]
            exact wh.2.2 c' hc'
        by_cases q : c' = c
        · subst q
          exact ⟨e69, e70⟩
        · have := wh.2.1 c' hc' (by rw [← (ft.2.1 c' q).1, ← v16]; exact e)
          rw [(ft.2.1 c' q).2]
          exact ⟨this.1, fun p hp => by rw [ft.2.2 _ (by omega)]; exact this.2 p hp⟩
      | succ r ih =>
        intro n hn
        refine T_X10_judge_33 h0.1.1 ?_
        rw [oN_t (by omega), show (σ.wi 68 c (σ.i 1 16)).i 31 c = Int32.ofNat (plW W.2.1 c) from (wi_ne (by omega)).trans ec, oN_le (by omega) (by omega), show (σ.wi 68 c (σ.i 1 16)).i 1 14 = Int32.ofNat (mkW W.1).length from (wi_ne (by omega)).trans h.2.2.2.1.1.1, oN_mul, ← Nat.pow_succ, oN_1]
        exact ⟨ib_oN c24 (by decide), fun z => absurd z (by omega), fun _ => ih (n + 1) (by omega)⟩
    exact lp _ 0 (Nat.zero_add _)
end JDG

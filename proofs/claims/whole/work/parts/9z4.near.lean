/-! THE REFERENCE: see(), asksMore() -/
def SeF (σ τ : Sg) : Prop := τ.sh = σ.sh ∧ (∀ a k, ¬ (a = 0 ∧ k = 51) → τ.r a k = σ.r a k) ∧ (∀ a k, ¬ (a = 0 ∧ (k = 47 ∨ k = 48 ∨ k = 53 ∨ k = 54)) → a ≠ 1933 → a ≠ 1934 → a ≠ 1935 → a ≠ 2068 → τ.i a k = σ.i a k) ∧ ∀ a, a ≠ 1936 → ¬ (1938 ≤ a ∧ a ≤ 2066) → τ.l a = σ.l a
theorem SeF.tr {σ τ υ : Sg} (h : SeF σ τ) (g : SeF τ υ) : SeF σ υ := ⟨g.1.trans h.1, fun a k q => (g.2.1 a k q).trans (h.2.1 a k q), fun a k h1 h2 h3 h4 h5 => (g.2.2.1 a k h1 h2 h3 h4 h5).trans (h.2.2.1 a k h1 h2 h3 h4 h5), fun a h1 h2 => (g.2.2.2 a h1 h2).trans (h.2.2.2 a h1 h2)⟩
theorem AtF.se {σ τ : Sg} (h : AtF σ τ) : SeF σ τ := ⟨h.1, fun a k _ => by rw [h.2.1], fun a k h1 h2 h3 _ _ => h.2.2.1 a k h2 h3 (fun q => h1 ⟨q.1, Or.inl q.2⟩), fun a h1 _ => h.2.2.2 a h1⟩
theorem ExF.se {n : Nat} {σ τ : Sg} (h : ExF n σ τ) : SeF σ τ := ⟨h.1, fun a k _ => by rw [h.2.1], fun a k h1 _ _ h4 h5 => h.2.2.1 a k (fun q => h1 ⟨q.1, Or.inr q.2⟩) h5 (fun q => h4 q.1), fun a _ h2 => h.2.2.2 a (fun q => h2 ⟨by omega, q.2⟩)⟩
/-- what see() reads -/
def SeP (kA : Nat) (bl : Nat → Nat → Bool) (k : Nat → Nat) (kn pl : Nat) (as : List Ask) (σ : Sg) : Prop :=
  FX ΦR σ.sh σ.r ∧ (σ.sh[kA]? = some (Sh.arr 0 3) ∧ (kA ≠ 0 ∧ kA ≠ 1933 ∧ kA ≠ 1934 ∧ kA ≠ 1935 ∧ kA ≠ 2067 ∧ kA ≠ 2068)) ∧ pl ≤ 3 ∧ (∀ i, i < pl → σ.i kA i = Int32.ofNat (k i) ∧ k i < kn) ∧ kn ≤ 24 ∧ (∀ a b, a < kn → b < kn → σ.i (1880 + 1 + a) b = if bl a b = true then 1 else 0) ∧ (σ.i 0 50 = Int32.ofNat as.length ∧ as.length ≤ 8) ∧
  (∀ (j : Nat) y, as[j]? = some y → σ.i 2067 j = Int32.ofNat y.1 ∧ (1 ≤ y.1 ∧ y.1 ≤ 120) ∧ TkS (2497 + 4 * y.1) pl y.2.1 y.2.2 σ ∧ ((y.2.2 = .nil ∨ tsW kn pl y.2.2) ∧ tH y.2.2 ≤ 18) ∧ ∀ i, i < pl → σ.i (2497 + 4 * y.1 + 2) i = Int32.ofInt (eqI y.2.1 i) ∧ (-2147483647 ≤ eqI y.2.1 i ∧ eqI y.2.1 i ≤ 2147483647)) ∧ (atA pl as).length ≤ 128
section SEE
variable {Z : zT} {kA kn pl : Nat} {bl : Nat → Nat → Bool} {k : Nat → Nat} {as : List Ask} {σ τ : Sg} {K : kS}
theorem SeP.se (h : SeP kA bl k kn pl as σ) (g : SeF σ τ) (hF : FX ΦR τ.sh τ.r) : SeP kA bl k kn pl as τ := by
  obtain ⟨h1, ⟨h2, h3, h4, h5, h6, h7, h8⟩, h9, h10, h11, h12, ⟨h13, h14⟩, h15, h16⟩ := h
  have row : ∀ a, a ≠ 0 → a ≠ 1933 → a ≠ 1934 → a ≠ 1935 → a ≠ 2068 → τ.i a = σ.i a := fun a q0 q1 q2 q3 q4 => funext fun j => g.2.2.1 a j (fun q => q0 q.1) q1 q2 q3 q4
  refine ⟨hF, ⟨by rw [g.1]; exact h2, h3, h4, h5, h6, h7, h8⟩, h9, fun i hi => ?_, h11, fun a b ha hb => ?_, ⟨(g.2.2.1 0 50 (by decide) (by decide) (by decide) (by decide) (by decide)).trans h13, h14⟩, fun j y hy => ?_, h16⟩
  · rw [row kA h3 h4 h5 h6 h8]
    exact h10 i hi
  · rw [row _ (by omega) (by omega) (by omega) (by omega) (by omega)]
    exact h12 a b ha hb
  · obtain ⟨g1, g2, ⟨g3, ⟨g4, g5⟩, g6, g7⟩, g8, g9⟩ := h15 j y hy
    refine ⟨by rw [row 2067 (by decide) (by decide) (by decide) (by decide) (by decide)]; exact g1, g2, ⟨g3, ?_, fun i hi => ?_, ?_⟩, g8, fun i hi => ?_⟩
    · rw [row (2497 + 4 * y.1) (by omega) (by omega) (by omega) (by omega) (by omega), row (2409 + 3 * _) (by omega) (by omega) (by omega) (by omega) (by omega)]
      exact ⟨g4, g5⟩
    · rw [row _ (by omega) (by omega) (by omega) (by omega) (by omega)]
      exact g6 i hi
    · rw [g.2.1 (2497 + 4 * y.1) 8 (by omega)]
      exact TsN.mono (fun z hz hzs => by
        have := nd_ge h1 hzs
        exact ⟨hz, by rw [g.1]; exact hzs, row z (by omega) (by omega) (by omega) (by omega) (by omega), g.2.2.2 z (by omega) (by omega), funext fun j => g.2.1 z j (by omega)⟩) _ _ g7
    · rw [row _ (by omega) (by omega) (by omega) (by omega) (by omega)]
      exact g9 i hi
theorem atL_bd (x : Ast) (hW : tsW kn pl x) (h3 : pl ≤ 3) : ∀ q ∈ atL x, q.1 < 4 ∧ q.2.1 < 4 ∧ (-4294967294 ≤ q.2.2 ∧ q.2.2 ≤ 4294967294) := by
  refine ts_ind (kn := kn) (pl := pl) (P := fun x => ∀ q ∈ atL x, q.1 < 4 ∧ q.2.1 < 4 ∧ (-4294967294 ≤ q.2.2 ∧ q.2.2 ≤ 4294967294)) ?_ ?_ ?_ ?_ x hW
  · intro v w pb mo _ hw hp hm q hq
    have hq : q ∈ [((w + 1).toNat, (pb + 1).toNat, mo)] := hq
    rw [List.mem_singleton] at hq
    rw [hq]
    exact ⟨by dsimp only; omega, by dsimp only; omega, hm⟩
  · intro v w _ _ q hq
    cases hq
  · intro op v w a b ho _ _ ha hb q hq
    rw [atL_2, if_neg (by omega), if_neg (by omega)] at hq
    rcases List.mem_append.mp hq with z | z
    · exact ha q z
    · exact hb q z
  · intro v w a _ ha q hq
    rw [atL_2, if_neg (by omega), if_neg (by omega)] at hq
    rcases List.mem_append.mp hq with z | z
    · exact ha q z
    · cases z
theorem SeP.bd (h : SeP kA bl k kn pl as σ) : ∀ q ∈ atA pl as, q.1 < 4 ∧ q.2.1 < 4 ∧ (-4294967294 ≤ q.2.2 ∧ q.2.2 ≤ 4294967294) := by
  intro q hq
  obtain ⟨y, hy, hq⟩ := List.mem_flatMap.mp hq
  obtain ⟨j, hj⟩ := List.getElem?_of_mem hy
  obtain ⟨-, -, -, ⟨hW, -⟩, he⟩ := h.2.2.2.2.2.2.2.1 j y hj
  have h3 := h.2.2.1
  rcases List.mem_append.mp hq with z | z
  · obtain ⟨i, hi, e⟩ := List.mem_map.mp z
    have hi := List.mem_range.mp (List.mem_filter.mp hi).1
    have := (he i hi).2
    rw [← e]
    dsimp only
    omega
  · rcases hW with hW | hW
    · rw [hW] at z
      cases z
    · exact atL_bd _ hW h3 q z
theorem rf_see {d : Nat} (hd : 200 ≤ d) (H : SeP kA bl k kn pl as σ) (h : ∀ τ (s : Nat → Bool), FX ΦR τ.sh τ.r → SeF σ τ → (∀ q, q < 2 ^ as.length → τ.i 2068 q = if s q = true then 1 else 0) → (∀ q, q < 2 ^ as.length → (s q = true ↔ ∃ v, InR v ∧ mkV pl bl k as v as.length = q)) → K (.inl none) τ) : B_X23_see_0 Z d σ kA K := by
  obtain ⟨d, rfl⟩ : ∃ e, d = e + 2 := ⟨d - 2, by omega⟩
  have hp3 := H.2.2.1
  have hN := H.2.2.2.2.2.2.1
  have h128 := H.2.2.2.2.2.2.2.2
  have hp8 := pw_8 hN.2
  obtain ⟨σ1, hσ1⟩ : ∃ x, x = (σ.wr 0 51 (Rf.ptr kA)).wi 0 47 (0 : Int32) := ⟨_, rfl⟩
  have F1 : FX ΦR σ1.sh σ1.r := by
    rw [hσ1]
    exact FX.w (a := 0) (k := 51) (v := Rf.ptr kA) H.1 (by decide +kernel)
  have g1 : SeF σ σ1 := by
    rw [hσ1]
    exact ⟨rfl, fun a j q => wr_ne q, fun a j q _ _ _ _ => wi_ne (by omega), fun a _ _ => rfl⟩
  have e51 : σ1.r 0 51 = Rf.ptr kA := by
    rw [hσ1]
    exact wr_at σ 0 51 (Rf.ptr kA)
  have A1 : AtS σ1 [] := ⟨by rw [hσ1, wi_at]; rfl, fun i A B C hi => by cases hi⟩
  have H1 := H.se g1 F1
  refine S_X23_see_0 H.1 ?_
  rw [← hσ1]
  -- behind the tables
  have p134 : ∀ τ, SeF σ1 τ → τ.r = σ1.r → AtS τ (atA pl as) → (∀ q, q < 2 ^ as.length → τ.i 2068 q = 0) → (∀ i j, i < 4 → j < 4 → (τ.l (1937 + 1 + 0) (4 * i + j)).toInt = d0 i j) → B_X23_see_134 Z (d + 2) τ (Int32.ofNat 4) K := by
    intro τ g gr A2 z2 T2
    have Fτ : FX ΦR τ.sh τ.r := by rw [g.1, gr]; exact F1
    have Hτ := H1.se g Fτ
    refine S_X23_see_134 Fτ ⟨fun _ => ?_, fun z => absurd (by decide) z⟩
    have gw : SeF τ (τ.wi 0 54 (0 : Int32)) := ⟨rfl, fun a j _ => rfl, fun a j q _ _ _ _ => wi_ne (by omega), fun a _ _ => rfl⟩
    obtain ⟨q1, ⟨q2, q3, q4, q5, q6, q7, q8⟩, q9, q10, q11, q12, q13, q14, q15⟩ := Hτ.se gw Fτ
    have E : ExS kA bl k kn pl as (τ.wi 0 54 (0 : Int32)) := by
      refine ⟨q1, ⟨?_, q2, q3, q6, q8⟩, q9, q10, q11, q12, q13, fun j y hy => ?_, ⟨(wi_ne (by decide)).trans A2.1, fun i A B C hi => ?_⟩, h128, H.bd⟩
      · show τ.r 0 51 = _
        rw [gr]
        exact e51
      · obtain ⟨b1, b2, b3, b4, -⟩ := q14 j y hy
        exact ⟨b1, b2, b3, b4⟩
      · rw [wi_row (by decide), wi_row (by decide)]
        exact A2.2 i A B C hi
    refine rf_explore (atA pl as).length 0 _ d0 (fun _ => 0) (fun _ => false) _ (d + 1) rfl (Nat.zero_le _) (by omega) E (fun i hi => by omega) T2 d0_cl (fun _ _ _ _ => Int.le_refl _) (fun v => ?_) ⟨fun q hq => ?_, ?_⟩ (fun υ s' gx hs' hq' => ?_)
    · rw [d0_so (x := vx v) rfl]
      constructor
      · intro hv
        exact ⟨fun i hi => hv (i + 1) (by omega) (by omega), fun i A B C _ hlt => by omega⟩
      · rintro ⟨hv, -⟩ x h1 h2
        have := hv (x - 1) (by omega)
        unfold vx
        rw [if_neg (by omega)]
        exact this
    · rw [wi_row (by decide), z2 q hq]
      rfl
    · rw [wi_at]
      have : (List.range (2 ^ as.length)).countP (fun _ => false) = 0 := by
        rw [List.countP_eq_zero]
        intro a _ z
        cases z
      rw [this]
      rfl
    · refine h υ s' ?_ (((g1.tr g).tr gw).tr gx.se) hs'.1 (fun q hq => ?_)
      · rw [gx.1, gx.2.1]
        exact Fτ
      · rw [hq' q hq]
        constructor
        · rintro (z | ⟨v, a1, -, a3⟩)
          · cases z
          · exact ⟨v, a1, a3⟩
        · rintro ⟨v, a1, a3⟩
          exact Or.inr ⟨v, a1, fun i A B C _ hlt => by omega, a3⟩
  -- the first table
  have tab : ∀ r i j (τ : Sg), 20 - (5 * i + j) = r → i ≤ 4 → j ≤ 4 → (i = 4 → j = 0) → SeF σ1 τ → τ.r = σ1.r → AtS τ (atA pl as) → (∀ q, q < 2 ^ as.length → τ.i 2068 q = 0) → (∀ i' j', i' < 4 → j' < 4 → (i' < i ∨ (i' = i ∧ j' < j)) → (τ.l (1937 + 1 + 0) (4 * i' + j')).toInt = d0 i' j') → (i < 4 → B_X23_see_141 Z (d + 2) τ (Int32.ofNat i) (Int32.ofNat j) K) ∧ (j = 0 → B_X23_see_134 Z (d + 2) τ (Int32.ofNat i) K) := by
    intro r
    induction r with
    | zero =>
      intro i j τ hr hi hj h40 g gr A2 z2 T2
      have i4 : i = 4 := by omega
      subst i4
      exact ⟨fun z => absurd z (Nat.lt_irrefl _), fun _ => p134 τ g gr A2 z2 (fun i' j' h1 h2 => T2 i' j' h1 h2 (Or.inl h1))⟩
    | succ r ih =>
      intro i j τ hr hi hj h40 g gr A2 z2 T2
      have Fτ : FX ΦR τ.sh τ.r := by rw [g.1, gr]; exact F1
      have p141 : i < 4 → B_X23_see_141 Z (d + 2) τ (Int32.ofNat i) (Int32.ofNat j) K := by
        intro hi4
        refine S_X23_see_141 Fτ ⟨fun z => ?_, fun z => ?_⟩
        · rw [show (4 : Int32) = Int32.ofNat 4 from rfl, oN_le (by omega) (by omega)] at z
          have j4 : j = 4 := by omega
          subst j4
          rw [oN_1]
          exact (ih (i + 1) 0 τ (by omega) (by omega) (by omega) (fun _ => rfl) g gr A2 z2 (fun i' j' h1 h2 h3 => T2 i' j' h1 h2 (by omega))).2 rfl
        · rw [show (4 : Int32) = Int32.ofNat 4 from rfl, oN_le (by omega) (by omega)] at z
          have ix : (4 : Int32) * Int32.ofNat i + Int32.ofNat j = Int32.ofNat (4 * i + j) := by
            rw [show (4 : Int32) = Int32.ofNat 4 from rfl, oN_mul, oN_add]
          have hib : ib ((4 : Int32) * Int32.ofNat i + Int32.ofNat j) 16 := by
            rw [ix]
            exact ib_oN (by omega) (by decide)
          have nx : ∀ x : Int64, x.toInt = d0 i j → B_X23_see_141 Z (d + 2) (τ.wl (1937 + 1 + 0) (((4 : Int32) * Int32.ofNat i + Int32.ofNat j).toNatClampNeg) x) (Int32.ofNat i) (Int32.ofNat j + 1) K := by
            intro x hx
            rw [ix, oN_t (by omega), oN_1]
            refine (ih i (j + 1) (τ.wl (1937 + 1 + 0) (4 * i + j) x) (by omega) hi (by omega) (by omega) (g.tr ⟨rfl, fun a j _ => rfl, fun a j _ _ _ _ _ => rfl, fun a h1 h2 => funext fun y => ?_⟩) gr ⟨A2.1, fun i A B C hi => ?_⟩ z2 (fun i' j' h1 h2 h3 => ?_)).1 hi4
            · rw [wl_l, if_neg (by omega)]
            · rw [wl_l, if_neg (by omega)]
              exact A2.2 i A B C hi
            · rw [wl_l]
              by_cases e : i' = i ∧ j' = j
              · rw [if_pos (by omega), hx, e.1, e.2]
              · rw [if_neg (by omega)]
                exact T2 i' j' h1 h2 (by omega)
          have p170 : ∀ (up dn : Int64), up.toInt = (if i = 0 then 0 else 2147483647) → dn.toInt = (if j = 0 then 0 else 2147483648) → B_X23_see_170 Z (d + 2) τ (Int32.ofNat i) (Int32.ofNat j) up dn K := by
            intro up dn hu hn
            refine S_X23_see_170 Fτ ⟨fun y => ⟨hib, nx _ ?_⟩, fun y => ⟨hib, nx _ ?_⟩⟩
            · rw [oN_eq (by omega) (by omega)] at y
              have b1 : 0 ≤ up.toInt ∧ up.toInt ≤ 2147483647 := by
                rw [hu]
                split <;> omega
              have b2 : 0 ≤ dn.toInt ∧ dn.toInt ≤ 2147483648 := by
                rw [hn]
                split <;> omega
              rw [i64_add (by omega) (by omega), hu, hn]
              unfold d0
              rw [if_neg y]
            · rw [oN_eq (by omega) (by omega)] at y
              unfold d0
              rw [if_pos y]
              rfl
          have p157 : ∀ (up : Int64), up.toInt = (if i = 0 then 0 else 2147483647) → B_X23_see_157 Z (d + 2) τ (Int32.ofNat i) (Int32.ofNat j) up K := by
            intro up hu
            refine S_X23_see_157 Fτ ⟨fun y => p170 up _ hu ?_, fun y => p170 up _ hu ?_⟩
            · rw [if_neg (fun e => y (by rw [e]; rfl))]
              rfl
            · rw [show (0 : Int32) = Int32.ofNat 0 from rfl, oN_eq (by omega) (by omega)] at y
              rw [if_pos y]
              rfl
          refine ⟨fun y => p157 _ ?_, fun y => p157 _ ?_⟩
          · rw [if_neg (fun e => y (by rw [e]; rfl))]
            rfl
          · rw [show (0 : Int32) = Int32.ofNat 0 from rfl, oN_eq (by omega) (by omega)] at y
            rw [if_pos y]
            rfl
      refine ⟨p141, fun j0 => ?_⟩
      subst j0
      by_cases i4 : i = 4
      · subst i4
        exact p134 τ g gr A2 z2 (fun i' j' h1 h2 => T2 i' j' h1 h2 (Or.inl h1))
      · refine S_X23_see_134 Fτ ⟨fun z => ?_, fun _ => p141 (by omega)⟩
        exfalso
        rw [show (4 : Int32) = Int32.ofNat 4 from rfl, oN_le (by omega) (by omega)] at z
        omega
  -- nothing is seen
  have zer : ∀ r j (τ : Sg), 2 ^ as.length - j = r → j ≤ 2 ^ as.length → SeF σ1 τ → τ.r = σ1.r → AtS τ (atA pl as) → (∀ q, q < j → τ.i 2068 q = 0) → B_X23_see_109 Z (d + 2) τ (Int32.ofNat j) K := by
    intro r
    induction r with
    | zero =>
      intro j τ hr hj g gr A2 z2
      have Fτ : FX ΦR τ.sh τ.r := by rw [g.1, gr]; exact F1
      have Hτ := H1.se g Fτ
      have eN : ((1 : Int32) <<< ((τ.i 0 50) &&& 31)) = Int32.ofNat (2 ^ as.length) := by
        rw [Hτ.2.2.2.2.2.2.1.1]
        exact sh_2 ⟨as.length, by omega⟩
      refine S_X23_see_109 Fτ ⟨fun _ => ?_, fun z => absurd (by rw [eN, oN_le (by omega) (by omega)]; omega) z⟩
      exact (tab 20 0 0 τ rfl (by omega) (by omega) (by omega) g gr A2 (fun q hq => z2 q (by omega)) (fun i' j' _ _ h3 => by omega)).2 rfl
    | succ r ih =>
      intro j τ hr hj g gr A2 z2
      have Fτ : FX ΦR τ.sh τ.r := by rw [g.1, gr]; exact F1
      have Hτ := H1.se g Fτ
      have eN : ((1 : Int32) <<< ((τ.i 0 50) &&& 31)) = Int32.ofNat (2 ^ as.length) := by
        rw [Hτ.2.2.2.2.2.2.1.1]
        exact sh_2 ⟨as.length, by omega⟩
      refine S_X23_see_109 Fτ ⟨fun z => ?_, fun _ => ⟨ib_oN (by omega) (by decide), ?_⟩⟩
      · exfalso
        rw [eN, oN_le (by omega) (by omega)] at z
        omega
      · rw [oN_t (by omega), oN_1, show vp_nar .boolean (0 : Int32) = 0 by decide]
        refine ih (j + 1) _ (by omega) (by omega) (g.tr ⟨rfl, fun a j _ => rfl, fun a j _ _ _ _ q5 => wi_ne (fun y => q5 y.1), fun a _ _ => rfl⟩) gr ⟨(wi_ne (by omega)).trans A2.1, fun i A B C hi => ?_⟩ (fun q hq => ?_)
        · rw [wi_row (by decide), wi_row (by decide)]
          exact A2.2 i A B C hi
        · by_cases e : q = j
          · rw [e, wi_at]
          · rw [wi_ne (by omega)]
            exact z2 q (by omega)
  -- the comparisons
  have lst : ∀ r j (τ : Sg), as.length - j = r → j ≤ as.length → SeF σ1 τ → τ.r = σ1.r → AtS τ (atA pl (as.take j)) → B_X23_see_12 Z (d + 2) τ (Int32.ofNat j) K := by
    intro r
    induction r with
    | zero =>
      intro j τ hr hj g gr A2
      have e : j = as.length := by omega
      subst e
      have Fτ : FX ΦR τ.sh τ.r := by rw [g.1, gr]; exact F1
      have Hτ := H1.se g Fτ
      rw [List.take_length] at A2
      exact S_X23_see_12 Fτ ⟨fun _ => zer _ 0 τ rfl (Nat.zero_le _) g gr A2 (fun q hq => by omega), fun z => absurd (by rw [Hτ.2.2.2.2.2.2.1.1]; exact Int32.le_refl _) z⟩
    | succ r ih =>
      intro j τ hr hj g gr A2
      have hlt : j < as.length := by omega
      have e : as[j]? = some as[j] := List.getElem?_eq_getElem hlt
      have et := atA_take pl as e
      obtain ⟨r1, er⟩ := atA_pre pl as (j + 1)
      have hle : (atA pl (as.take j)).length + ((eqL pl as[j].2.1).length + (atL as[j].2.2).length) ≤ 128 := by
        rw [er, et, List.length_append, List.length_append] at h128
        unfold atM at h128
        rw [List.length_append] at h128
        omega
      have Fτ : FX ΦR τ.sh τ.r := by rw [g.1, gr]; exact F1
      have Hτ := H1.se g Fτ
      obtain ⟨a1, a2, -⟩ := Hτ.2.2.2.2.2.2.2.1 j _ e
      refine S_X23_see_12 Fτ ⟨fun z => ?_, fun _ => ⟨ib_oN (by omega) (by decide), ?_, ?_⟩⟩
      · exfalso
        rw [Hτ.2.2.2.2.2.2.1.1, oN_le (by omega) (by omega)] at z
        omega
      · rw [oN_t (by omega), a1]
        exact ib_oN (by omega) (by decide)
      · rw [oN_t (by omega), a1, oN_t (by omega)]
        have hlm : ∀ i, i ≤ pl → (eqL i as[j].2.1).length ≤ (eqL pl as[j].2.1).length := by
          have : ∀ m i, (eqL i as[j].2.1).length ≤ (eqL (i + m) as[j].2.1).length := by
            intro m
            induction m with
            | zero => intro i; exact Nat.le_refl _
            | succ m ih =>
              intro i
              rw [show i + (m + 1) = i + m + 1 by omega, eqL_succ, List.length_append]
              exact Nat.le_trans (ih i) (by omega)
          intro i hi
          have := this (pl - i) i
          rw [show i + (pl - i) = pl by omega] at this
          exact this
        have inn : ∀ r2 i (υ : Sg), pl - i = r2 → i ≤ pl → SeF σ1 υ → υ.r = σ1.r → AtS υ (atA pl (as.take j) ++ eqL i as[j].2.1) → B_X23_see_35 Z (d + 2) υ (Int32.ofNat j) (2497 + 4 * as[j].1) (Int32.ofNat i) K := by
          intro r2
          induction r2 with
          | zero =>
            intro i υ hr2 hi gυ grυ A3
            have ei : i = pl := by omega
            subst ei
            have Fυ : FX ΦR υ.sh υ.r := by rw [gυ.1, grυ]; exact F1
            have Hυ := H1.se gυ Fυ
            obtain ⟨b1, b2, ⟨b3, ⟨b4, b5⟩, b6, b7⟩, ⟨b8, b8'⟩, b9⟩ := Hυ.2.2.2.2.2.2.2.1 j _ e
            refine S_X23_see_35 Fυ b3 ⟨b4, fun _ => ⟨fun z => ?_, fun z => ?_⟩, fun z => absurd (by rw [b5]; exact Int32.le_refl _) z⟩
            · have hn : as[j].2.2 = .nil := by
                rcases b8 with q | q
                · exact q
                · exact absurd ((ts_nil b7).mp z) (ts_nn q)
              rw [oN_1]
              refine ih (j + 1) υ (by omega) (by omega) gυ grυ ?_
              rw [et]
              unfold atM
              rw [hn]
              rw [show eqL i as[j].2.1 ++ atL .nil = eqL i as[j].2.1 from List.append_nil _]
              exact A3
            · have hw : tsW kn i as[j].2.2 := by
                rcases b8 with q | q
                · rw [q] at b7
                  exact absurd b7 z
                · exact q
              refine rf_atoms as[j].2.2 hw (d + 1) υ _ _ _ (by omega) Fυ b7 A3 (by rw [List.length_append]; omega) (fun ω gω A4 => ?_)
              show B_X23_see_12 Z (d + 2) ω (Int32.ofNat j + 1) K
              rw [oN_1]
              refine ih (j + 1) ω (by omega) (by omega) (gυ.tr gω.se) (gω.2.1.trans grυ) ?_
              rw [et]
              unfold atM
              rw [← List.append_assoc]
              exact A4
          | succ r2 ih2 =>
            intro i υ hr2 hi gυ grυ A3
            have hi2 : i < pl := by omega
            have Fυ : FX ΦR υ.sh υ.r := by rw [gυ.1, grυ]; exact F1
            have Hυ := H1.se gυ Fυ
            obtain ⟨b1, b2, ⟨b3, ⟨b4, b5⟩, b6, b7⟩, b8, b9⟩ := Hυ.2.2.2.2.2.2.2.1 j _ e
            have hl1 := hlm (i + 1) (by omega)
            rw [eqL_succ, List.length_append] at hl1
            refine S_X23_see_35 Fυ b3 ⟨b4, fun z => ?_, fun _ => ⟨ib_oN (by omega) (by decide), ?_, ?_⟩⟩
            · exfalso
              rw [b5, oN_le (by omega) (by omega)] at z
              omega
            · rw [oN_t (by omega), b6 i hi2, oN_1]
              intro z
              have hh : ¬ hsI as[j].2.1 i = true := fun q => by
                rw [if_pos q] at z
                exact absurd z (by decide)
              refine ih2 (i + 1) υ (by omega) (by omega) gυ grυ ?_
              rw [eqL_succ, if_neg hh, List.append_nil]
              exact A3
            · rw [oN_t (by omega), b6 i hi2, oN_1]
              intro z
              have hh : hsI as[j].2.1 i = true := by
                cases q : hsI as[j].2.1 i with
                | true => rfl
                | false =>
                  rw [q] at z
                  exact absurd rfl z
              rw [if_pos hh] at hl1
              have hl1 : (eqL i as[j].2.1).length + 1 ≤ _ := hl1
              obtain ⟨e1, e2⟩ := b9 i hi2
              refine ⟨ib_oN (by omega) (by decide), ?_⟩
              rw [e1]
              refine rf_atom (b := 0) Fυ A3 (by rw [List.length_append]; omega) (fun ω gω A4 => ?_)
              refine ih2 (i + 1) ω (by omega) (by omega) (gυ.tr gω.se) (gω.2.1.trans grυ) ?_
              rw [eqL_succ, if_pos hh, ← List.append_assoc]
              have ev : (Int32.toInt64 (-(Int32.ofInt (eqI as[j].2.1 i)))).toInt = -eqI as[j].2.1 i := by
                have e3 : (Int32.ofInt (eqI as[j].2.1 i)).toInt = eqI as[j].2.1 i := by
                  rw [Int32.toInt_ofInt, Int.bmod_def, show (Int32.size : Int) = 4294967296 from rfl]
                  omega
                rw [Int32.toInt_toInt64, Int32.toInt_neg, e3, Int.bmod_def]
                omega
              rw [ev] at A4
              exact A4
        exact inn pl 0 τ rfl (Nat.zero_le _) g gr (by rw [show eqL 0 as[j].2.1 = [] from rfl, List.append_nil]; exact A2)
  exact lst as.length 0 σ1 rfl (Nat.zero_le _) ⟨rfl, fun _ _ _ => rfl, fun _ _ _ _ _ _ _ => rfl, fun _ _ _ => rfl⟩ rfl A1
end SEE
/-! PURE: who asks more -/
noncomputable def pD (p : Prop) : Bool := @decide p (Classical.propDecidable p)
theorem pD_iff {p : Prop} : pD p = true ↔ p := by
  unfold pD
  exact @decide_eq_true_iff p (Classical.propDecidable p)
/-- numbers that the one takes and the other doesn't -/
def alP (pl : Nat) (bl : Nat → Nat → Bool) (k : Nat → Nat) (x y : List Spc × Ast) : Prop := ∃ v, InR v ∧ tkM pl x.1 bl k x.2 v = true ∧ tkM pl y.1 bl k y.2 v = false
noncomputable def akI (pl : Nat) (bl : Nat → Nat → Bool) (k : Nat → Nat) (x y : List Spc × Ast) : Int := if pD (alP pl bl k x y) = pD (alP pl bl k y x) then 0 else if pD (alP pl bl k x y) = true then 1 else -1
theorem mkV_2 (pl : Nat) (bl : Nat → Nat → Bool) (k : Nat → Nat) (m n : Nat) (x y : List Spc × Ast) (v : Nat → Int) : mkV pl bl k [(m, x), (n, y)] v 2 = (if tkM pl x.1 bl k x.2 v = true then 1 else 0) + (if tkM pl y.1 bl k y.2 v = true then 2 else 0) := by
  show 0 + (if tkM pl x.1 bl k x.2 v = true then 2 ^ 0 else 0) + (if tkM pl y.1 bl k y.2 v = true then 2 ^ 1 else 0) = _
  rw [Nat.zero_add]

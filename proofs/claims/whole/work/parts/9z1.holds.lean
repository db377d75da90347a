/-! THE REFERENCE: holds(), takes() -/
def CuF (σ τ : Sg) : Prop := τ.sh = σ.sh ∧ τ.l = σ.l ∧ τ.r = σ.r ∧ ∀ a k, ¬ (a = 0 ∧ k = 48) → τ.i a k = σ.i a k
theorem CuF.refl (σ : Sg) : CuF σ σ := ⟨rfl, rfl, rfl, fun _ _ _ => rfl⟩
theorem CuF.tr {σ τ υ : Sg} (h : CuF σ τ) (g : CuF τ υ) : CuF σ υ := ⟨g.1.trans h.1, g.2.1.trans h.2.1, g.2.2.1.trans h.2.2.1, fun a k hk => (g.2.2.2 a k hk).trans (h.2.2.2 a k hk)⟩
theorem CuF.row {σ τ : Sg} (h : CuF σ τ) {a : Nat} (ha : a ≠ 0) : τ.i a = σ.i a := funext fun k => h.2.2.2 a k (fun q => ha q.1)
/-- what holds() reads -/
def HxS (kA : Nat) (bl : Nat → Nat → Bool) (k : Nat → Nat) (kn pl at' : Nat) (oc : Nat → Int) (σ : Sg) : Prop :=
  FX ΦR σ.sh σ.r ∧ (σ.r 0 51 = Rf.ptr kA ∧ σ.sh[kA]? = some (Sh.arr 0 3) ∧ kA ≠ 0) ∧ pl ≤ 3 ∧ (∀ i, i < pl → σ.i kA i = Int32.ofNat (k i) ∧ k i < kn) ∧ kn ≤ 24 ∧ (∀ a b, a < kn → b < kn → σ.i (1880 + 1 + a) b = if bl a b = true then 1 else 0) ∧ (σ.i 0 53 = Int32.ofNat at' ∧ at' ≤ 128) ∧ (∀ i, i < at' → σ.i 1935 i = Int32.ofInt (oc i) ∧ (-1 ≤ oc i ∧ oc i ≤ 1))
section HOLDS
variable {Z : zT} {kA kn pl at' : Nat} {bl : Nat → Nat → Bool} {k : Nat → Nat} {oc : Nat → Int} {σ τ : Sg} {K : kS} {A : Nat → Prop}
theorem HxS.cu (h : HxS kA bl k kn pl at' oc σ) (g : CuF σ τ) : HxS kA bl k kn pl at' oc τ := by
  obtain ⟨h1, ⟨h2, h3, h3'⟩, h4, h5, h6, h7, ⟨h8, h9⟩, h10⟩ := h
  refine ⟨by rw [g.1, g.2.2.1]; exact h1, ⟨by rw [g.2.2.1]; exact h2, by rw [g.1]; exact h3, h3'⟩, h4, fun i hi => ?_, h6, fun a b ha hb => ?_, ⟨(g.2.2.2 0 53 (by decide)).trans h8, h9⟩, fun i hi => ?_⟩
  · rw [g.row h3']
    exact h5 i hi
  · rw [g.row (by omega)]
    exact h7 a b ha hb
  · rw [g.row (by decide)]
    exact h10 i hi
theorem TsN.cu (F : FX ΦR σ.sh σ.r) {x : Ast} {r : Rf} (h : TsN σ A x r) (g : CuF σ τ) : TsN τ A x r := TsN.mono (fun y hy hs => ⟨hy, by rw [g.1]; exact hs, g.row (by have := nd_ge F hs; omega), by rw [g.2.1], by rw [g.2.2.1]⟩) _ _ h
theorem rf_both {d : Nat} (F : FX ΦR σ.sh σ.r) {a b : Nat} (ha : a ≤ 2) (hb : b ≤ 2) (h : K (.inl (some (.int (Int32.ofNat (b3 a b))))) σ) : B_X23_both_0 Z (d + 1) σ (Int32.ofNat a) (Int32.ofNat b) K := by
  refine S_X23_both_0 F ?_
  rcases (by omega : a = 0 ∨ a = 1 ∨ a = 2) with rfl | rfl | rfl <;> rcases (by omega : b = 0 ∨ b = 1 ∨ b = 2) with rfl | rfl | rfl
  · exact ⟨fun _ => h, fun q => absurd rfl q⟩
  · exact ⟨fun _ => h, fun q => absurd rfl q⟩
  · exact ⟨fun _ => h, fun q => absurd rfl q⟩
  · exact ⟨fun q => absurd q (by decide), fun _ => ⟨fun q => absurd rfl q, fun _ => h⟩⟩
  · exact ⟨fun q => absurd q (by decide), fun _ => ⟨fun _ => ⟨fun q => absurd rfl q, fun _ => ⟨fun q => absurd rfl q, fun _ => h⟩⟩, fun q => absurd q (by decide)⟩⟩
  · exact ⟨fun q => absurd q (by decide), fun _ => ⟨fun _ => ⟨fun q => absurd rfl q, fun _ => ⟨fun _ => h, fun q => absurd q (by decide)⟩⟩, fun q => absurd q (by decide)⟩⟩
  · exact ⟨fun q => absurd q (by decide), fun _ => ⟨fun q => absurd rfl q, fun _ => h⟩⟩
  · exact ⟨fun q => absurd q (by decide), fun _ => ⟨fun _ => ⟨fun _ => h, fun q => absurd q (by decide)⟩, fun q => absurd q (by decide)⟩⟩
  · exact ⟨fun q => absurd q (by decide), fun _ => ⟨fun _ => ⟨fun _ => h, fun q => absurd q (by decide)⟩, fun q => absurd q (by decide)⟩⟩
theorem rf_not {d : Nat} (F : FX ΦR σ.sh σ.r) {a : Nat} (ha : a ≤ 2) (h : K (.inl (some (.int (Int32.ofNat (n3 a))))) σ) : B_X23_not_0 Z (d + 1) σ (Int32.ofNat a) K := by
  refine S_X23_not_0 F ?_
  rcases (by omega : a = 0 ∨ a = 1 ∨ a = 2) with rfl | rfl | rfl
  · exact ⟨fun _ => h, fun q => absurd q (by decide)⟩
  · exact ⟨fun _ => h, fun q => absurd q (by decide)⟩
  · exact ⟨fun q => absurd rfl q, fun _ => h⟩
theorem i3_cases {z : Int} (h : -1 ≤ z ∧ z ≤ 1) : z = -1 ∨ z = 0 ∨ z = 1 := by omega
/-- holds() -/
theorem rf_holds (x : Ast) (hW : tsW kn pl x) : ∀ (d c : Nat) (σ : Sg) (r : Rf) (K : kS), tH x + 2 ≤ d → HxS kA bl k kn pl at' oc σ → TsN σ A x r → σ.i 0 48 = Int32.ofNat c → c + (atL x).length ≤ 128 → (∀ τ, CuF σ τ → τ.i 0 48 = Int32.ofNat (c + (atL x).length) → K (.inl (some (.int (Int32.ofNat (hl3 bl k oc at' x c))))) τ) → B_X23_holds_0 Z d σ r K := by
  refine ts_ind (kn := kn) (pl := pl) (P := fun x => ∀ (d c : Nat) (σ : Sg) (r : Rf) (K : kS), tH x + 2 ≤ d → HxS kA bl k kn pl at' oc σ → TsN σ A x r → σ.i 0 48 = Int32.ofNat c → c + (atL x).length ≤ 128 → (∀ τ, CuF σ τ → τ.i 0 48 = Int32.ofNat (c + (atL x).length) → K (.inl (some (.int (Int32.ofNat (hl3 bl k oc at' x c))))) τ) → B_X23_holds_0 Z d σ r K) ?_ ?_ ?_ ?_ x hW
  · intro v w pb mo hv hw hp hm d c σ r K hd H T hc hc2 h
    obtain ⟨d, rfl⟩ : ∃ e, d = e + 1 := ⟨d - 1, by rw [tH_2] at hd; omega⟩
    rw [TsN_aN] at T
    obtain ⟨b, rfl, -, hs, ho, hrest⟩ := T
    have hb := nd_ge H.1 hs
    obtain ⟨hsg, -⟩ : leafC σ b v w (.nest pb (.nest mo .nil)) ∧ True := by
      rcases hrest with ⟨-, q, -⟩ | ⟨q, -⟩ | ⟨q, -⟩
      · exact ⟨q, trivial⟩
      · omega
      · omega
    have hsg := hsg.1
    have ho : σ.i b 0 = 8 := ho
    rw [hl3_2] at h
    simp only [show ¬ (8 : Nat) = 20 by decide, show ¬ (8 : Nat) = 21 by decide, show ¬ (8 : Nat) = 22 by decide, show ¬ (8 : Nat) = 9 by decide, if_false] at h
    have hlen : (atL (aN 8 v w (.nest pb (.nest mo .nil)) .nil .nil)).length = 1 := rfl
    rw [hlen] at h hc2
    have hτ : CuF σ (σ.wi 0 48 (σ.i 0 48 + (1 : Int32))) := ⟨rfl, rfl, rfl, fun a j hj => wi_ne hj⟩
    have h48 : (σ.wi 0 48 (σ.i 0 48 + (1 : Int32))).i 0 48 = Int32.ofNat (c + 1) := by
      rw [wi_at, hc, oN_1]
    have hK := h _ hτ h48
    have e3 : (σ.wi 0 48 (σ.i 0 48 + (1 : Int32))).i b 3 = chV v.toNat := by
      rw [wi_ne (by omega)]
      exact hsg
    have e53 := H.2.2.2.2.2.2.1
    have lt : σ.i 0 48 < σ.i 0 53 ↔ c < at' := by
      rw [hc, e53.1, oN_lt (by omega) (by omega)]
    refine S_X23_holds_0 H.1 ⟨b, rfl, hs, fun q => absurd (ho.symm.trans q) (by decide), fun q => absurd (ho.symm.trans q) (by decide), fun q => absurd (ho.symm.trans q) (by decide), fun q => absurd (ho.symm.trans q) (by decide), fun _ _ _ _ => ⟨fun q => ?_, fun q => ?_⟩⟩
    · have q := lt.mp q
      obtain ⟨o1, o2⟩ := H.2.2.2.2.2.2.2 c q
      have ec : (σ.i 0 48).toNatClampNeg = c := by rw [hc, oN_t (by omega)]
      rw [if_pos q] at hK
      rw [ec, o1, e3]
      refine ⟨by rw [hc]; exact ib_oN (by omega) (by decide), ?_⟩
      rcases hv with rfl | rfl | rfl <;> rcases i3_cases o2 with z | z | z <;> rw [z] at hK ⊢
      · exact ⟨fun _ => ⟨fun _ => ⟨fun y => absurd y (by decide), fun _ => hK⟩, fun y => absurd y (by decide)⟩, fun y => absurd y (by decide)⟩
      · exact ⟨fun _ => ⟨fun _ => ⟨fun _ => hK, fun y => absurd (by decide) y⟩, fun y => absurd y (by decide)⟩, fun y => absurd y (by decide)⟩
      · exact ⟨fun _ => ⟨fun _ => ⟨fun _ => hK, fun y => absurd (by decide) y⟩, fun y => absurd y (by decide)⟩, fun y => absurd y (by decide)⟩
      · exact ⟨fun y => absurd (by decide) y, fun _ => ⟨fun _ => hK, fun y => absurd y (by decide)⟩⟩
      · exact ⟨fun y => absurd (by decide) y, fun _ => ⟨fun y => absurd (by decide) y, fun _ => hK⟩⟩
      · exact ⟨fun y => absurd (by decide) y, fun _ => ⟨fun _ => hK, fun y => absurd y (by decide)⟩⟩
      · exact ⟨fun _ => ⟨fun y => absurd (by decide) y, fun _ => ⟨fun y => absurd y (by decide), fun _ => hK⟩⟩, fun y => absurd y (by decide)⟩
      · exact ⟨fun _ => ⟨fun y => absurd (by decide) y, fun _ => ⟨fun y => absurd y (by decide), fun _ => hK⟩⟩, fun y => absurd y (by decide)⟩
      · exact ⟨fun _ => ⟨fun y => absurd (by decide) y, fun _ => ⟨fun _ => hK, fun y => absurd (by decide) y⟩⟩, fun y => absurd y (by decide)⟩
    · rw [if_neg (fun y => q (lt.mpr y))] at hK
      exact hK
  · intro v w hv hw d c σ r K hd H T hc hc2 h
    obtain ⟨d, rfl⟩ : ∃ e, d = e + 1 := ⟨d - 1, by rw [tH_2] at hd; omega⟩
    rw [TsN_aN] at T
    obtain ⟨b, rfl, -, hs, ho, hrest⟩ := T
    obtain ⟨f1, f2⟩ : σ.i b 2 = Int32.ofInt w ∧ σ.i b 1 = Int32.ofInt v := by
      rcases hrest with ⟨q, -⟩ | ⟨-, q1, q2, -⟩ | ⟨q, -⟩
      · omega
      · exact ⟨q1, q2⟩
      · omega
    have ho : σ.i b 0 = 9 := ho
    rw [hl3_2] at h
    simp only [show ¬ (9 : Nat) = 20 by decide, show ¬ (9 : Nat) = 21 by decide, show ¬ (9 : Nat) = 22 by decide, if_false, if_true] at h
    obtain ⟨w, rfl⟩ : ∃ y : Nat, w = (y : Int) := ⟨w.toNat, by omega⟩
    obtain ⟨v, rfl⟩ : ∃ y : Nat, v = (y : Int) := ⟨v.toNat, by omega⟩
    have f1 : σ.i b 2 = Int32.ofNat w := f1
    have f2 : σ.i b 1 = Int32.ofNat v := f2
    obtain ⟨hF, ⟨h51, hsk, -⟩, hp3, hk, hkn, hbl, -, -⟩ := H
    obtain ⟨k1, k2⟩ := hk w (by omega)
    have hK := h σ (CuF.refl σ) hc
    rw [Int.toNat_natCast, Int.toNat_natCast] at hK
    have ev : σ.i (1880 + 1 + ((σ.i kA ((σ.i b 2).toNatClampNeg)).toNatClampNeg)) ((σ.i b 1).toNatClampNeg) = if bl (k w) v = true then 1 else 0 := by
      rw [f1, f2, oN_t (by omega), oN_t (by omega), k1, oN_t (by omega)]
      exact hbl _ _ k2 (by omega)
    refine S_X23_holds_0 hF ⟨b, rfl, hs, fun _ => ⟨kA, h51, 3, hsk, by rw [f1]; exact ib_oN (by omega) (by decide), ?_, by rw [f2]; exact ib_oN (by omega) (by decide), ?_⟩, fun q => absurd (ho.symm.trans q) (by decide), fun q => absurd (ho.symm.trans q) (by decide), fun q => absurd (ho.symm.trans q) (by decide), fun q => absurd ho q⟩
    · rw [f1, oN_t (by omega), k1]
      exact ib_oN (by omega) (by decide)
    · rw [ev]
      by_cases q : bl (k w) v = true
      · rw [if_pos q] at hK ⊢
        exact ⟨fun y => absurd y (by decide), fun _ => hK⟩
      · rw [if_neg q] at hK ⊢
        exact ⟨fun _ => hK, fun y => absurd rfl y⟩
  · intro op v w a b' hop wa wb iha ihb d c σ r K hd H T hc hc2 h
    rw [tH_2] at hd
    obtain ⟨d, rfl⟩ : ∃ e, d = e + 2 := ⟨d - 2, by omega⟩
    rw [TsN_aN] at T
    obtain ⟨b, rfl, -, hs, ho, hrest⟩ := T
    have hb := nd_ge H.1 hs
    obtain ⟨Ta, Tb⟩ : TsN σ A a (σ.r b 5) ∧ TsN σ A b' (σ.r b 6) := by
      rcases hrest with ⟨q, -⟩ | ⟨q, -⟩ | ⟨-, q1, q2⟩
      · omega
      · omega
      · exact ⟨q1, q2⟩
    have eL : atL (aN op v w a b' .nil) = atL a ++ atL b' := by
      rw [atL_2, if_neg (by omega), if_neg (by omega)]
    rw [eL, List.length_append] at hc2
    rw [eL, List.length_append, hl3_2] at h
    have la := hl3_le (bl := bl) (k := k) (oc := oc) (at' := at') a wa c
    have lb := hl3_le (bl := bl) (k := k) (oc := oc) (at' := at') b' wb (c + (atL a).length)
    rcases hop with rfl | rfl
    · have ho : σ.i b 0 = 20 := ho
      refine S_X23_holds_0 H.1 ⟨b, rfl, hs, fun q => absurd (ho.symm.trans q) (by decide), fun _ => ?_, fun q => absurd (ho.symm.trans q) (by decide), fun q => absurd (ho.symm.trans q) (by decide), fun _ q => absurd ho q⟩
      refine iha (d + 1) c σ _ _ (by omega) H Ta hc (by omega) (fun τ1 g1 c1 => ?_)
      refine ⟨by rw [g1.1]; exact hs, ?_⟩
      refine ihb (d + 1) _ τ1 _ _ (by omega) (H.cu g1) ?_ c1 (by omega) (fun τ2 g2 c2 => ?_)
      · rw [g1.2.2.1]
        exact Tb.cu H.1 g1
      · have F2 := (H.cu (g1.tr g2)).1
        refine rf_not F2 la (rf_not F2 lb (rf_both F2 (n3_le la) (n3_le lb) (rf_not F2 (b3_le _ _) ?_)))
        rw [if_pos rfl] at h
        exact h τ2 (g1.tr g2) (by rw [c2]; congr 1; omega)
    · have ho : σ.i b 0 = 21 := ho
      refine S_X23_holds_0 H.1 ⟨b, rfl, hs, fun q => absurd (ho.symm.trans q) (by decide), fun q => absurd (ho.symm.trans q) (by decide), fun _ => ?_, fun q => absurd (ho.symm.trans q) (by decide), fun _ _ q => absurd ho q⟩
      refine iha (d + 1) c σ _ _ (by omega) H Ta hc (by omega) (fun τ1 g1 c1 => ?_)
      refine ⟨by rw [g1.1]; exact hs, ?_⟩
      refine ihb (d + 1) _ τ1 _ _ (by omega) (H.cu g1) ?_ c1 (by omega) (fun τ2 g2 c2 => ?_)
      · rw [g1.2.2.1]
        exact Tb.cu H.1 g1
      · have F2 := (H.cu (g1.tr g2)).1
        refine rf_both F2 la lb ?_
        rw [if_neg (by decide), if_pos rfl] at h
        exact h τ2 (g1.tr g2) (by rw [c2]; congr 1; omega)
  · intro v w a wa iha d c σ r K hd H T hc hc2 h
    rw [tH_2] at hd
    obtain ⟨d, rfl⟩ : ∃ e, d = e + 2 := ⟨d - 2, by omega⟩
    rw [TsN_aN] at T
    obtain ⟨b, rfl, -, hs, ho, hrest⟩ := T
    obtain ⟨Ta, -⟩ : TsN σ A a (σ.r b 5) ∧ True := by
      rcases hrest with ⟨q, -⟩ | ⟨q, -⟩ | ⟨-, q1, q2⟩
      · omega
      · omega
      · exact ⟨q1, trivial⟩
    have eL : atL (aN 22 v w a .nil .nil) = atL a := by
      rw [atL_2, if_neg (by omega), if_neg (by omega)]
      exact List.append_nil _
    rw [eL] at hc2
    rw [eL, hl3_2, if_neg (by decide), if_neg (by decide), if_pos rfl] at h
    have la := hl3_le (bl := bl) (k := k) (oc := oc) (at' := at') a wa c
    have ho : σ.i b 0 = 22 := ho
    refine S_X23_holds_0 H.1 ⟨b, rfl, hs, fun q => absurd (ho.symm.trans q) (by decide), fun q => absurd (ho.symm.trans q) (by decide), fun q => absurd (ho.symm.trans q) (by decide), fun _ => ?_, fun _ _ _ q => absurd ho q⟩
    refine iha (d + 1) c σ _ _ (by omega) H Ta hc (by omega) (fun τ1 g1 c1 => ?_)
    exact rf_not (H.cu g1).1 la (h τ1 g1 c1)
/-- what takes() reads of a method: its places, its specs, its test -/
def TkS (M pl : Nat) (sp : List Spc) (x : Ast) (σ : Sg) : Prop := sh0R[M]? = some (Sh.obj 19) ∧ (ib (σ.i M 0) 24 ∧ σ.i (2409 + 3 * (σ.i M 0).toNatClampNeg) 1 = Int32.ofNat pl) ∧ (∀ i, i < pl → σ.i (M + 3) i = if hsI sp i = true then 1 else 0) ∧ TsN σ (fun _ => True) x (σ.r M 8)
theorem TkS.cu {M : Nat} {sp : List Spc} {x : Ast} (F : FX ΦR σ.sh σ.r) (hM : M ≠ 0) (h : TkS M pl sp x σ) (g : CuF σ τ) : TkS M pl sp x τ := by
  obtain ⟨h1, h2, h3, h4⟩ := h
  refine ⟨h1, by rw [g.row hM, g.row (by omega)]; exact h2, fun i hi => by rw [g.row (by omega)]; exact h3 i hi, ?_⟩
  rw [g.2.2.1]
  exact h4.cu F g
theorem rf_takes {d c M : Nat} {sp : List Spc} {x : Ast} (hW : x = .nil ∨ tsW kn pl x) (hd : tH x + 5 ≤ d) (hM : M ≠ 0) (H : HxS kA bl k kn pl at' oc σ) (T : TkS M pl sp x σ) (hc : σ.i 0 48 = Int32.ofNat c) (hc2 : c + (atM pl sp x).length ≤ 128) (h : ∀ τ, CuF σ τ → τ.i 0 48 = Int32.ofNat (c + (atM pl sp x).length) → K (.inl (some (.int (Int32.ofNat (tk3 pl sp oc at' bl k x c))))) τ) : B_X23_takes_0 Z d σ M K := by
  obtain ⟨d, rfl⟩ : ∃ e, d = e + 2 := ⟨d - 2, by omega⟩
  have hp3 := H.2.2.1
  have hlm : ∀ i, i ≤ pl → (eqL i sp).length ≤ (eqL pl sp).length := by
    have : ∀ m i, (eqL i sp).length ≤ (eqL (i + m) sp).length := by
      intro m
      induction m with
      | zero => intro i; exact Nat.le_refl _
      | succ m ih =>
        intro i
        rw [show i + (m + 1) = i + m + 1 by omega, eqL_succ, List.length_append]
        exact Nat.le_trans (ih i) (by omega)
    intro i hi
    have := this (pl - i) i
    rw [show i + (pl - i) = pl by omega] at this
    exact this
  have hml : (atM pl sp x).length = (eqL pl sp).length + (atL x).length := by
    unfold atM
    rw [List.length_append]
  have loop : ∀ m i (τ : Sg), pl - i = m → i ≤ pl → CuF σ τ → τ.i 0 48 = Int32.ofNat (c + (eqL i sp).length) → B_X23_takes_4 Z (d + 2) τ M (Int32.ofNat (eq3 sp oc at' c i)) (Int32.ofNat i) K := by
    intro m
    induction m with
    | zero =>
      intro i τ hm hi g hc
      have e : i = pl := by omega
      subst e
      have T2 := T.cu H.1 hM g
      have H2 := H.cu g
      obtain ⟨t1, ⟨t2, t3⟩, t4, t5⟩ := T2
      refine S_X23_takes_4 H2.1 ⟨t1, t2, fun _ => ⟨fun q => ?_, fun q => ?_⟩, fun q => absurd (by rw [t3]; exact Int32.le_refl _) q⟩
      · rcases hW with rfl | hW
        · exact absurd t5 q
        · refine rf_holds x hW (d + 1) _ τ _ _ (by omega) H2 t5 hc (by omega) (fun υ g2 c2 => ?_)
          refine rf_both (H2.cu g2).1 (eq3_le _ _) (hl3_le x hW _) ?_
          exact h υ (g.tr g2) (by rw [c2, hml]; congr 1; omega)
      · have hx : x = .nil := by
          rcases hW with hW | hW
          · exact hW
          · exfalso
            have := (ts_nil t5).mp q
            refine ts_ind (P := fun x => ¬ x.isNil = true) ?_ ?_ ?_ ?_ x hW this
            · intro v w pb mo _ _ _ _ z
              cases z
            · intro v w _ _ z
              cases z
            · intro op v w a b _ _ _ _ _ z
              cases z
            · intro v w a _ _ z
              cases z
        subst hx
        refine rf_both H2.1 (a := eq3 sp oc at' c i) (b := 1) (eq3_le _ _) (by omega) ?_
        exact h τ g (by rw [hc, hml]; rfl)
    | succ m ih =>
      intro i τ hm hi g hc
      have hlt : i < pl := by omega
      have T2 := T.cu H.1 hM g
      have H2 := H.cu g
      obtain ⟨t1, ⟨t2, t3⟩, t4, t5⟩ := T2
      obtain ⟨e53, e128⟩ := H2.2.2.2.2.2.2.1
      have hl1 := hlm (i + 1) (by omega)
      rw [eqL_succ, List.length_append] at hl1
      refine S_X23_takes_4 H2.1 ⟨t1, t2, fun q => ?_, fun _ => ⟨ib_oN (by omega) (by decide), ?_⟩⟩
      · exfalso
        rw [t3, oN_le (by omega) (by omega)] at q
        omega
      · rw [oN_t (by omega), t4 i hlt]
        have eq3s : eq3 sp oc at' c (i + 1) = if hsI sp i = true then b3 (eq3 sp oc at' c i) (if c + (eqL i sp).length < at' then (if oc (c + (eqL i sp).length) = 0 then 1 else 0) else 2) else eq3 sp oc at' c i := by
          rw [eq3]
        by_cases hh : hsI sp i = true
        · rw [if_pos hh] at eq3s hl1 ⊢
          have hl1 : (eqL i sp).length + 1 ≤ (eqL pl sp).length := hl1
          have nx : ∀ (v : Nat) (υ : Sg), υ = τ → v = eq3 sp oc at' c (i + 1) → B_X23_takes_4 Z (d + 2) (υ.wi 0 48 ((υ.i 0 48) + (1 : Int32))) M (Int32.ofNat v) (Int32.ofNat i + 1) K := by
            rintro v υ rfl rfl
            rw [oN_1]
            refine ih (i + 1) _ (by omega) (by omega) (g.tr ⟨rfl, rfl, rfl, fun a j hj => wi_ne hj⟩) ?_
            rw [wi_at, hc, oN_1, eqL_succ, List.length_append, if_pos hh]
            rfl
          have lt : τ.i 0 48 < τ.i 0 53 ↔ c + (eqL i sp).length < at' := by
            rw [hc, e53, oN_lt (by omega) (by omega)]
          refine ⟨fun _ => ⟨fun q => ?_, fun q => ?_⟩, fun q => absurd q (by decide)⟩
          · have q := lt.mp q
            rw [if_pos q] at eq3s
            obtain ⟨o1, o2⟩ := H2.2.2.2.2.2.2.2 _ q
            rw [hc, oN_t (by omega), o1]
            refine ⟨ib_oN (by omega) (by decide), fun z => ?_, fun z => ?_⟩
            · have z0 : oc (c + (eqL i sp).length) ≠ 0 := fun y => z (by rw [y]; rfl)
              rw [if_neg z0] at eq3s
              refine rf_both H2.1 (b := 0) (eq3_le _ _) (by omega) ?_
              have := nx _ τ rfl eq3s.symm
              exact this
            · have z0 : oc (c + (eqL i sp).length) = 0 := by
                rcases i3_cases o2 with y | y | y
                · rw [y] at z
                  exact absurd z (by decide)
                · exact y
                · rw [y] at z
                  exact absurd z (by decide)
              rw [if_pos z0] at eq3s
              refine rf_both H2.1 (b := 1) (eq3_le _ _) (by omega) ?_
              have := nx _ τ rfl eq3s.symm
              exact this
          · rw [if_neg (fun y => q (lt.mpr y))] at eq3s
            refine rf_both H2.1 (b := 2) (eq3_le _ _) (by omega) ?_
            have := nx _ τ rfl eq3s.symm
            exact this
        · rw [if_neg hh] at eq3s ⊢
          refine ⟨fun q => absurd rfl q, fun _ => ?_⟩
          rw [oN_1, ← eq3s]
          refine ih (i + 1) τ (by omega) (by omega) g ?_
          rw [hc, eqL_succ, if_neg hh, List.append_nil]
  exact S_X23_takes_0 H.1 (loop pl 0 σ rfl (Nat.zero_le _) (CuF.refl σ) (by rw [hc]; rfl))
end HOLDS

/-! THE CLASS: names, marks, a text cut -/
theorem sh_6 {x c : Nat} (hx : x < 2 ^ 57) (hc : c < 64) : ((Int64.ofNat x) <<< (Int32.toInt64 (6 : Int32) &&& 63)) ||| (Int32.toInt64 (Int32.ofNat c)) = Int64.ofNat (x * 64 + c) := by
  have e6 : (Int32.toInt64 (6 : Int32) &&& 63) = 6 := by decide
  have e2 : ((6 : Int64).toBitVec.smod 64) = 6#64 := by decide
  apply Int64.toBitVec_inj.mp
  apply BitVec.eq_of_toNat_eq
  have h1 : (Int64.ofNat x).toBitVec.toNat = x := by
    show (BitVec.ofNat 64 x).toNat = x
    rw [BitVec.toNat_ofNat]
    omega
  have h2 : (Int32.toInt64 (Int32.ofNat c)).toBitVec.toNat = c := by
    have e3 : (Int32.toInt64 (Int32.ofNat c)).toBitVec.toInt = c := (Int32.toInt_toInt64 _).trans (oN_i (by omega))
    have := BitVec.toInt_eq_toNat_cond (Int32.toInt64 (Int32.ofNat c)).toBitVec
    have hb := (Int32.toInt64 (Int32.ofNat c)).toBitVec.isLt
    rw [e3] at this
    split at this <;> omega
  have h3 : (Int64.ofNat (x * 64 + c)).toBitVec.toNat = x * 64 + c := by
    show (BitVec.ofNat 64 (x * 64 + c)).toNat = _
    rw [BitVec.toNat_ofNat]
    omega
  rw [h3, Int64.toBitVec_or, BitVec.toNat_or, h2, e6, Int64.toBitVec_shiftLeft, e2, BitVec.shiftLeft_eq', BitVec.toNat_shiftLeft, h1, Nat.shiftLeft_eq]
  show x * 2 ^ 6 % 2 ^ 64 ||| c = _
  rw [Nat.mod_eq_of_lt (by omega)]
  have := Nat.shiftLeft_add_eq_or_of_lt (i := 6) (b := c) (by omega) x
  rw [Nat.shiftLeft_eq] at this
  omega
theorem txN_s (t : Nat → Int32) (p k : Nat) : txN t p (k + 1) = txN t p k ++ [t (p + k)] := by
  unfold txN
  rw [List.range_succ, List.map_append]
  rfl
theorem mk_f : ∀ c, c < 256 → (if c < 128 ∧ 32 < c ∧ 0 ≤ stF 184 (Int32.ofNat c) then stF 108 (Int32.ofNat c) = Int32.ofNat (mkC (Int32.ofNat c) - 4) ∧ 4 ≤ mkC (Int32.ofNat c) ∧ mkC (Int32.ofNat c) ≤ 15 ∧ ((mkC (Int32.ofNat c) = 14 ↔ c = 61) ∧ (mkC (Int32.ofNat c) = 15 ↔ c = 60)) else stF 108 (Int32.ofNat c) = -1) := by decide +kernel
theorem mk_u : ∀ c, c < 256 → ((Int32.toUInt32 (Int32.ofNat c)) % 65536).toInt32 = Int32.ofNat c := by decide +kernel
section NAMES
variable {Z : zT} {d : Nat} {t : Nat → Int32} {n A m : Nat} {σ τ υ : Sg} {K : kS} {cap b0 b1 b2 b3 p l : Nat}
/-- the letters so far, packed -/
def NmP (t : Nat → Int32) (p a : Nat) (x y : Int64) : Prop := a - p ≤ 16 → x = nmH (txN t p (a - p)) ∧ y = nmT (txN t p (a - p))
theorem nm_st {a : Nat} (hpa : p ≤ a) {x y : Int64} (h : NmP t p a x y) : (10 ≤ a - p → NmP t p (a + 1) x ((y <<< (Int32.toInt64 (6 : Int32) &&& 63)) ||| (Int32.toInt64 (Int32.ofNat (cdN (t a)))))) ∧ (¬ 10 ≤ a - p → NmP t p (a + 1) ((x <<< (Int32.toInt64 (6 : Int32) &&& 63)) ||| (Int32.toInt64 (Int32.ofNat (cdN (t a))))) y) := by
  have e : txN t p (a + 1 - p) = txN t p (a - p) ++ [t a] := by
    rw [show a + 1 - p = a - p + 1 by omega, txN_s, show p + (a - p) = a by omega]
  have hl : (txN t p (a - p)).length = a - p := txN_len ..
  have cb := cdN_b (t a)
  refine ⟨fun q => fun q16 => ?_, fun q => fun q16 => ?_⟩
  · obtain ⟨h1, h2⟩ := h (by omega)
    have pl := pkN_lt 6 ((txN t p (a - p)).drop 10) (by rw [List.length_drop]; omega)
    rw [e]
    refine ⟨?_, ?_⟩
    · rw [h1]
      unfold nmH
      rw [List.take_append_of_le_length (by omega)]
    · rw [h2]
      unfold nmT
      rw [sh_6 (Nat.lt_trans pl (by decide)) (by omega), List.drop_append_of_le_length (by omega), pkN_snoc]
  · obtain ⟨h1, h2⟩ := h (by omega)
    have pl := pkN_lt 9 ((txN t p (a - p)).take 10) (by rw [List.length_take]; omega)
    rw [e]
    refine ⟨?_, ?_⟩
    · rw [h1]
      unfold nmH
      rw [sh_6 (Nat.lt_trans pl (by decide)) (by omega), List.take_of_length_le (l := txN t p (a - p)) (by omega), List.take_of_length_le (by rw [List.length_append, hl]; show a - p + 1 ≤ 10; omega), pkN_snoc]
    · rw [h2]
      unfold nmT
      rw [List.drop_of_length_le (by omega), List.drop_of_length_le (by rw [List.length_append, hl]; show a - p + 1 ≤ 10; omega)]
theorem cl_skN (F : FX ΦC σ.sh σ.r) (T : TxC t n A m σ) : ∀ f a (x y : Int64), p ≤ a → a ≤ n → n - a ≤ f → NmP t p a x y → (∀ x' y', NmP t p (skN t n f a) x' y' → C_X8_cutName_87 Z (d + 2) σ A (Int32.ofNat n) (Int32.ofNat p) x' y' (Int32.ofNat (skN t n f a)) K) → C_X8_cutName_9 Z (d + 2) σ A (Int32.ofNat n) (Int32.ofNat p) x y (Int32.ofNat a) K
  | 0, a, x, y, hpa, ha, hf, hN, w => by
    obtain ⟨h1, h2, h3, h4, h5⟩ := T
    refine T_X8_cutName_9 F ⟨fun _ => w x y hN, fun z => absurd ?_ z⟩
    rw [oN_le (by omega) (by omega)]
    omega
  | f + 1, a, x, y, hpa, ha, hf, hN, w => by
    have T' := T
    obtain ⟨h1, h2, h3, h4, h5⟩ := T
    have e : skN t n (f + 1) a = if a < n ∧ (isLet (t a) ∨ isDig (t a)) then skN t n f (a + 1) else a := rfl
    rw [e] at w
    by_cases q : a < n
    · refine T_X8_cutName_9 F ⟨fun z => absurd z ?_, fun _ => ⟨m, h1, ib_oN (by omega) (by omega), ?_⟩⟩
      · rw [oN_le (by omega) (by omega)]
        omega
      · rw [oN_t (by omega), h3 a q]
        refine cl_code F ?_
        rw [ub_cd (h4 a)]
        have cb := cdN_b (t a)
        refine ⟨fun z => ?_, fun z => ?_⟩
        · rw [show (0 : Int32) = Int32.ofNat 0 from rfl, oN_le (by omega) (by decide)] at z
          rw [if_neg (fun y => by have := (cdN_nm (t a)).mp y.2; omega)] at w
          exact w x y hN
        · rw [show (0 : Int32) = Int32.ofNat 0 from rfl, oN_le (by omega) (by decide)] at z
          have hc : nmC (t a) := (cdN_nm (t a)).mpr (by omega)
          rw [if_pos ⟨q, hc⟩] at w
          obtain ⟨s1, s2⟩ := nm_st hpa hN
          rw [oN_sub hpa, show (10 : Int32) = Int32.ofNat 10 from rfl, oN_le (by decide) (by omega), oN_1]
          refine ⟨fun z2 => ⟨m, h1, ib_oN (by omega) (by omega), ?_⟩, fun z2 => ⟨m, h1, ib_oN (by omega) (by omega), ?_⟩⟩
          · rw [h3 a q]
            refine cl_code F ?_
            rw [ub_cd (h4 a)]
            exact cl_skN F T' f (a + 1) _ _ (by omega) (by omega) (by omega) (s1 z2) w
          · rw [h3 a q]
            refine cl_code F ?_
            rw [ub_cd (h4 a)]
            exact cl_skN F T' f (a + 1) _ _ (by omega) (by omega) (by omega) (s2 z2) w
    · rw [if_neg (fun y => q y.1)] at w
      refine T_X8_cutName_9 F ⟨fun _ => w x y hN, fun z => absurd ?_ z⟩
      rw [oN_le (by omega) (by omega)]
      omega
theorem cl_name {k : Nat} (hZ : ZK Z) (hd : 16 ≤ d) (F : FX ΦC σ.sh σ.r) (T : TxC t n A m σ) (S : SgA σ cap b0 b1 b2 b3) (e4 : σ.i 41 4 = Int32.ofNat k) (hk : k < cap) (hp : p < n) (hL : isLet (t p)) (h : ∀ τ, PuR t n b0 b1 b2 b3 k p σ τ → K (.inl (some (.int (Int32.ofNat (enC t n p))))) τ) : C_X8_cutName_0 Z (d + 1) σ A (Int32.ofNat n) (Int32.ofNat p) K := by
  obtain ⟨d, rfl⟩ : ∃ e, d = e + 1 := ⟨d - 1, by omega⟩
  have x2 := T.2.1
  have sl := skN_le t n (n - p) p
  have hsn := sl.2 (by omega)
  have ln : lnS t n p = skN t n (n - p) p - p := rfl
  have en : enS t n p = skN t n (n - p) p := by
    unfold enS
    rw [if_pos hp, if_pos hL]
  refine T_X8_cutName_0 F (cl_skN F T (n - p) p 0 0 (Nat.le_refl _) (by omega) (Nat.le_refl _) (fun _ => by rw [Nat.sub_self]; exact ⟨rfl, rfl⟩) (fun x y hN => T_X8_cutName_87 F ?_))
  rw [oN_sub sl.1, ← ln, show (16 : Int32) = Int32.ofNat 16 from rfl, oN_le (by omega) (by decide)]
  unfold NmP at hN
  rw [← ln] at hN
  refine ⟨fun z => cl_wordOrName hZ (by omega) F T hp hL z (by omega) ?_, fun z => ?_⟩
  · obtain ⟨n1, n2⟩ := hN z
    have ty : tyS t n p = 2 ∨ 20 ≤ tyS t n p := by
      rcases ty_or t n p with q | q | q | q | q | q
      · exact absurd hp q.2.2
      · exfalso
        have := q.2
        unfold soS at this
        rw [if_pos hp, if_pos hL, if_pos z] at this
        split at this <;> exact absurd this (by decide)
      · exact Or.inl q.1
      · exact absurd hL q.2.2.2
      · exact absurd hL q.2.2.1
      · rcases q.2.2.2.2 with y | ⟨y, y1, -, y2⟩
        · exfalso
          -- every word that stands there has a number
          have hw := wd_J t p (lnS t n p)
          have so := q.1
          unfold soS at so
          rw [if_pos hp, if_pos hL, if_pos z] at so
          rcases hw with ⟨j, hj, e, hm⟩ | ⟨e, -⟩
          · obtain ⟨q', hq', e'⟩ := wd_f7 j hj
            have c := (wdL_c q' hq').1
            rw [e'] at c
            have ty : tyS t n p = wdC (wdJ t p (lnS t n p)) := by
              unfold tyS
              rw [q.1]
              rfl
            rw [ty, e, c] at y
            have := (wdL_c q' hq').2.1
            omega
          · rw [if_pos e] at so
            exact absurd so (by decide)
        · right
          have := (wdL_c y y1).2.1
          omega
    refine cl_puts F S e4 hk (p := p) (t := t) (n := n) rfl (by unfold hdS; rw [if_pos ty]; exact n1) (by unfold tlS; rw [if_pos ty]; exact n2) (fun τ g => ?_)
    have := h τ g
    unfold enC at this
    rw [if_neg (by omega), en] at this
    exact this
  · have ty : tyS t n p = 1 := by
      unfold tyS soS
      rw [if_pos hp, if_pos hL, if_neg z]
      rfl
    refine cl_puts F S e4 hk (p := p) (t := t) (n := n) (by rw [ty]; rfl) (by unfold hdS; rw [ty]; rfl) (by unfold tlS; rw [ty]; rfl) (fun τ g => ?_)
    have := h τ g
    unfold enC at this
    rw [ty, if_pos (by decide)] at this
    exact this
theorem cl_mark {k : Nat} (hZ : ZK Z) (hd : 16 ≤ d) (F : FX ΦC σ.sh σ.r) (T : TxC t n A m σ) (S : SgA σ cap b0 b1 b2 b3) (e4 : σ.i 41 4 = Int32.ofNat k) (hk : k < cap) (hp : p < n) (hL : ¬ isLet (t p)) (hD : ¬ isDig (t p)) (h : ∀ τ, PuR t n b0 b1 b2 b3 k p σ τ → K (.inl (some (.int (Int32.ofNat (enC t n p))))) τ) : C_X8_cutMark_0 Z (d + 1) σ A (Int32.ofNat n) (Int32.ofNat p) K := by
  obtain ⟨x1, x2, x3, x4, x5⟩ := T
  have hu := ub_i (x4 p)
  have hb := x4 p
  obtain ⟨c, hc, hcs⟩ : ∃ c, c < 256 ∧ (t p &&& 255) = Int32.ofNat c := by
    refine ⟨(t p &&& 255).toInt.toNat, ?_, i_oN ?_⟩
    · rw [hu]
      unfold by8 at hb
      split <;> omega
    · rw [hu]
      unfold by8 at hb
      split <;> omega
  have hci : (c : Int) = if 0 ≤ (t p).toInt then (t p).toInt else (t p).toInt + 256 := by rw [← hu, hcs, oN_i (by omega)]
  have tc : c < 128 → t p = Int32.ofNat c := fun z => by
    apply Int32.toInt_inj.mp
    rw [oN_i (by omega)]
    unfold by8 at hb
    split at hci <;> omega
  have t32 : 32 < t p ↔ (c < 128 ∧ 32 < c) := by
    rw [Int32.lt_iff_toInt_lt, show (32 : Int32).toInt = 32 from rfl]
    unfold by8 at hb
    split at hci <;> omega
  have en : enS t n p = p + if two t n p then 2 else 1 := by
    unfold enS
    rw [if_pos hp, if_neg hL, if_neg hD]
  have so : soS t n p = if 32 < t p ∧ 0 ≤ stF 184 (t p) then 4 else 5 := by
    unfold soS
    rw [if_pos hp, if_neg hL, if_neg hD]
  have va : vaS t n p = if two t n p then 256 + t p else t p := by
    unfold vaS
    rw [if_neg hD]
  have mf := mk_f c hc
  refine T_X8_cutMark_0 F ⟨m, x1, ib_oN (by omega) (by omega), ?_⟩
  rw [oN_t (by omega), x3 p hp, hcs, mk_u c hc]
  refine st_ix hZ (Or.inl ⟨rfl, hc⟩) (by omega) F ?_
  by_cases good : c < 128 ∧ 32 < c ∧ 0 ≤ stF 184 (Int32.ofNat c)
  · rw [if_pos good] at mf
    obtain ⟨m1, m2, m3, m4, m5⟩ := mf
    have e := tc good.1
    have so4 : soS t n p = 4 := by
      rw [so, if_pos ⟨t32.mpr ⟨good.1, good.2.1⟩, by rw [e]; exact good.2.2⟩]
    have ty : tyS t n p = mkC (vaS t n p) := by
      unfold tyS
      rw [so4]
      rfl
    rw [m1]
    show (_ → _) ∧ (_ → _)
    rw [show (4 : Int32) = Int32.ofNat 4 from rfl, oN_add, show 4 + (mkC (Int32.ofNat c) - 4) = mkC (Int32.ofNat c) by omega, show (14 : Int32) = Int32.ofNat 14 from rfl, show (15 : Int32) = Int32.ofNat 15 from rfl, oN_eq (by omega) (by decide), oN_eq (by omega) (by decide), show (0 : Int32) = Int32.ofNat 0 from rfl, oN_le (by decide) (by omega)]
    have fin : ∀ (w : Nat), w = tyS t n p → 2 ≤ w → w < 18 → w ≠ 2 → w ≠ 3 → C_X8_put_0 Z d σ (Int32.ofNat w) (Int32.ofNat p) 0 0 (yN K fun τ => K (.inl (some (.int (Int32.ofNat (enS t n p))))) τ) := fun w hw w1 w2 w3 w4 => by
      obtain ⟨d, rfl⟩ : ∃ e, d = e + 1 := ⟨d - 1, by omega⟩
      refine cl_puts F S e4 hk (p := p) (t := t) (n := n) (by rw [hw]) (by unfold hdS; rw [if_neg (by omega), if_neg (by omega)]) (by unfold tlS; rw [if_neg (by omega)]) (fun τ g => ?_)
      have := h τ g
      unfold enC at this
      rw [if_neg (by omega)] at this
      exact this
    have one : ¬ two t n p → C_X8_put_0 Z d σ (Int32.ofNat (mkC (Int32.ofNat c))) (Int32.ofNat p) 0 0 (yN K fun τ => K (.inl (some (.int (Int32.ofNat p + (1 : Int32))))) τ) := fun z => by
      have := fin (mkC (Int32.ofNat c)) (by rw [ty, va, if_neg z, e]) (by omega) (by omega) (by omega) (by omega)
      rw [en, if_neg z] at this
      rw [oN_1]
      exact this
    have p50 : (mkC (Int32.ofNat c) = 14 ∨ mkC (Int32.ofNat c) = 15) → C_X8_cutMark_50 Z (d + 1) σ A (Int32.ofNat n) (Int32.ofNat p) (Int32.ofNat (mkC (Int32.ofNat c))) K := fun hw => by
      refine T_X8_cutMark_50 F ?_
      rw [oN_1, oN_le (by omega) (by omega), oN_t (by omega)]
      refine ⟨fun z => ?_, fun z => ⟨m, x1, ib_oN (by omega) (by omega), ?_⟩⟩
      · have := one (fun y => by have := y.2.1; omega)
        rw [oN_1] at this
        exact this
      · rw [x3 (p + 1) (by omega)]
        refine ⟨fun z2 => ?_, fun z2 => ?_⟩
        · have := one (fun y => z2 y.2.2)
          rw [oN_1] at this
          exact this
        · have tw : two t n p := ⟨by
            rcases hw with q | q
            · left
              rw [e, m4.mp q]
              rfl
            · right
              rw [e, m5.mp q]
              rfl, by omega, z2⟩
          rw [show (15 : Int32) = Int32.ofNat 15 from rfl, oN_eq (by omega) (by decide), show (2 : Int32) = Int32.ofNat 2 from rfl, oN_add]
          have e2 : enS t n p = p + 2 := by rw [en, if_pos tw]
          refine ⟨fun y => ?_, fun y => ?_⟩
          · have q : mkC (Int32.ofNat c) = 14 := by omega
            have := fin 16 (by rw [ty, va, if_pos tw, e, m4.mp q]; decide) (by omega) (by omega) (by omega) (by omega)
            rw [e2] at this
            exact this
          · have := fin 17 (by rw [ty, va, if_pos tw, e, m5.mp y]; decide) (by omega) (by omega) (by omega) (by omega)
            rw [e2] at this
            exact this
    refine ⟨fun _ => ⟨fun z => p50 (Or.inl z), fun z => ⟨fun z2 => one (fun y => ?_), fun z2 => p50 (Or.inr z2)⟩⟩, fun z => absurd (Nat.zero_le _) z⟩
    rcases y.1 with q | q
    · rw [e] at q
      have q := (oN_eq (b := 61) (by omega) (by decide)).mp q
      exact z (m4.mpr q)
    · rw [e] at q
      have q := (oN_eq (b := 60) (by omega) (by decide)).mp q
      exact z2 (m5.mpr q)
  · rw [if_neg good] at mf
    rw [mf]
    refine ⟨fun z => absurd z (by decide), fun _ => ?_⟩
    have so5 : soS t n p = 5 := by
      rw [so, if_neg (fun y => ?_)]
      have := t32.mp y.1
      exact good ⟨this.1, this.2, by rw [← tc this.1]; exact y.2⟩
    have ty : tyS t n p = 1 := by
      unfold tyS
      rw [so5]
      rfl
    obtain ⟨d, rfl⟩ : ∃ e, d = e + 1 := ⟨d - 1, by omega⟩
    refine cl_puts F S e4 hk (p := p) (t := t) (n := n) (by rw [ty]; rfl) (by unfold hdS; rw [ty]; rfl) (by unfold tlS; rw [ty]; rfl) (fun τ g => ?_)
    have := h τ g
    unfold enC at this
    rw [ty, if_pos (by decide)] at this
    exact this
end NAMES

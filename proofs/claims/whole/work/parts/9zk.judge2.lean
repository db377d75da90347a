/-! PURE: kinds in tests; masks -/
/-- it asks for kinds -/
def kmB : Ast → Bool
  | .tag op (.nest _ (.nest _ (.append a (.append b .nil)))) => if op = 9 then true else if op = 8 then false else kmB a || kmB b
  | _ => false
theorem kmB_2 (op : Nat) (y w : Int) (a b : Ast) : kmB (aN op y w a b .nil) = if op = 9 then true else if op = 8 then false else kmB a || kmB b := rfl
theorem km_ts {kn pl : Nat} {bl : Nat → Nat → Bool} {k k' : Nat → Nat} {v : Nat → Int} (x : Ast) (hW : tsW kn pl x) : kmB x = false → tsB bl k v x = tsB bl k' v x := by
  refine ts_ind (kn := kn) (pl := pl) (P := fun x => kmB x = false → tsB bl k v x = tsB bl k' v x) ?_ ?_ ?_ ?_ x hW
  · intro y w pb mo _ _ _ _ _
    rfl
  · intro y w _ _ h
    cases h
  · intro op y w a b ho _ _ ha hb h
    rw [kmB_2, if_neg (by omega), if_neg (by omega), Bool.or_eq_false_iff] at h
    rw [tsB_2, tsB_2, ha h.1, hb h.2]
    rcases ho with rfl | rfl <;> rfl
  · intro y w a _ ha h
    have h : (kmB a || kmB .nil) = false := h
    rw [Bool.or_eq_false_iff] at h
    show (!tsB bl k v a) = (!tsB bl k' v a)
    rw [ha h.1]
def asM (ms : List (Mtd × Bool)) (m : Nat) : Ask := (m, spM ms m, tsM ms m)
def tkW (W : Wld) (pl : Nat) (k : Nat → Nat) (v : Nat → Int) (m : Nat) : Bool := tkM pl (spM W.2.2.2 m) (blW W.1) k (tsM W.2.2.2 m) v
/-- numbers that just these take -/
def saP (W : Wld) (pl : Nat) (k : Nat → Nat) (D : List Nat) (q : Nat) : Prop := ∃ v, InR v ∧ mkV pl (blW W.1) k (D.map (asM W.2.2.2)) v D.length = q
theorem mkV_lt {pl : Nat} {bl : Nat → Nat → Bool} {k : Nat → Nat} {as : List Ask} {v : Nat → Int} : ∀ j, mkV pl bl k as v j < 2 ^ j
  | 0 => by
    show 0 < 1
    decide
  | j + 1 => by
    have := mkV_lt (pl := pl) (bl := bl) (k := k) (as := as) (v := v) j
    rw [mkV, Nat.pow_succ]
    split <;> omega
theorem mkV_bit {pl : Nat} {bl : Nat → Nat → Bool} {k : Nat → Nat} {as : List Ask} {v : Nat → Int} : ∀ n j, j < n → mkV pl bl k as v n / 2 ^ j % 2 = if ((as[j]?).map fun y => tkM pl y.2.1 bl k y.2.2 v).getD false = true then 1 else 0
  | 0, j, h => by omega
  | n + 1, j, h => by
    have hl := mkV_lt (pl := pl) (bl := bl) (k := k) (as := as) (v := v) n
    by_cases e : j = n
    · subst e
      rw [mkV]
      split
      · rw [Nat.add_div_right _ (Nat.two_pow_pos j), Nat.div_eq_of_lt hl]
      · rw [Nat.add_zero, Nat.div_eq_of_lt hl]
    · have ih := mkV_bit (pl := pl) (bl := bl) (k := k) (as := as) (v := v) n j (by omega)
      rw [mkV, ← ih]
      split
      · have e2 : 2 ^ n = 2 ^ j * (2 * 2 ^ (n - j - 1)) := by
          rw [← Nat.mul_assoc, Nat.mul_comm (2 ^ j) 2, Nat.mul_assoc, ← Nat.pow_add, Nat.mul_comm, ← Nat.pow_succ]
          congr 1
          omega
        rw [e2, Nat.add_mul_div_left _ _ (Nat.two_pow_pos j), Nat.add_mul_mod_self_left]
      · rw [Nat.add_zero]
theorem ms_bit : ∀ q : Fin 256, ∀ j : Fin 8, ((Int32.ofNat q.val >>> (Int32.ofNat j.val &&& 31)) &&& (1 : Int32)) = 0 ↔ q.val / 2 ^ j.val % 2 = 0 := by decide +kernel
theorem fl_next {p : Nat → Bool} : ∀ (L : List Nat) (j x : Nat), L[j]? = some x → p x = true → (L.filter p)[((L.take j).filter p).length]? = some x
  | [], j, x, h, _ => by cases h
  | y :: r, 0, x, h, hp => by
    cases h
    rw [List.take_zero, List.filter_nil, List.filter_cons, if_pos hp]
    rfl
  | y :: r, j + 1, x, h, hp => by
    have h : r[j]? = some x := h
    have ih := fl_next (p := p) r j x h hp
    rw [List.take_succ_cons, List.filter_cons, List.filter_cons]
    split
    · rw [List.length_cons, List.getElem?_cons_succ]
      exact ih
    · exact ih
theorem tk_free {W : Wld} {m pl : Nat} {k : Nat → Nat} {v : Nat → Int} (hp : pl = plW W.2.1 (mcW W.2.2.2 m)) (h : akB W m = false) : tkW W pl k v m = true := by
  unfold akB at h
  rw [Bool.or_eq_false_iff] at h
  obtain ⟨h1, h2⟩ := h
  unfold tkW tkM
  have hn : (tsM W.2.2.2 m).isNil = true := by
    cases q : (tsM W.2.2.2 m).isNil with
    | true => rfl
    | false =>
      rw [q] at h2
      cases h2
  have hx : tsM W.2.2.2 m = .nil := by
    cases hq : tsM W.2.2.2 m with
    | nil => rfl
    | _ => rw [hq] at hn; cases hn
  rw [hx, Bool.and_eq_true]
  refine ⟨?_, rfl⟩
  rw [List.all_eq_true]
  intro i hi
  rw [List.any_eq_false] at h1
  have := h1 i (by rw [← hp]; exact hi)
  rw [Bool.eq_false_iff.mpr this]
  rfl
section JUDGE2
variable {Z : zT} {W : Wld} {lst : List Nat} {b wy : Nat} {σ τ : Sg} {K : kS} {c : Nat} {k : Nat → Nat}
/-- asksKinds() -/
theorem rf_asksKinds {kn pl : Nat} {A : Nat → Prop} (x : Ast) (hW : tsW kn pl x) (F : FX ΦR σ.sh σ.r) : ∀ (d : Nat) (r : Rf) (K : kS), tH x + 2 ≤ d → TsN σ A x r → K (.inl (some (.int (if kmB x = true then 1 else 0)))) σ → B_X23_asksKinds_0 Z d σ r K := by
  refine ts_ind (kn := kn) (pl := pl) (P := fun x => ∀ (d : Nat) (r : Rf) (K : kS), tH x + 2 ≤ d → TsN σ A x r → K (.inl (some (.int (if kmB x = true then 1 else 0)))) σ → B_X23_asksKinds_0 Z d σ r K) ?_ ?_ ?_ ?_ x hW
  · intro y w pb mo _ _ _ _ d r K hd T h
    rw [tH_2] at hd
    obtain ⟨d, rfl⟩ : ∃ e, d = e + 1 := ⟨d - 1, by omega⟩
    rw [TsN_aN] at T
    obtain ⟨e, rfl, -, hs, ho, hrest⟩ := T
    obtain ⟨l5, l6⟩ : σ.r e 5 = Rf.nul ∧ σ.r e 6 = Rf.nul := by
      rcases hrest with ⟨-, -, q⟩ | ⟨q, -⟩ | ⟨q, -⟩
      · exact q
      · omega
      · omega
    have ho : σ.i e 0 = 8 := ho
    exact S_X23_asksKinds_0 F ⟨e, rfl, hs, fun q => absurd (ho.symm.trans q) (by decide), fun _ => ⟨fun _ => S_X23_asksKinds_26 F ⟨hs, fun _ => h, fun q => absurd l6 q⟩, fun q => absurd l5 q⟩⟩
  · intro y w _ _ d r K hd T h
    rw [tH_2] at hd
    obtain ⟨d, rfl⟩ : ∃ e, d = e + 1 := ⟨d - 1, by omega⟩
    rw [TsN_aN] at T
    obtain ⟨e, rfl, -, hs, ho, -⟩ := T
    have ho : σ.i e 0 = 9 := ho
    exact S_X23_asksKinds_0 F ⟨e, rfl, hs, fun _ => h, fun q => absurd ho q⟩
  · intro op y w a b' hop wa wb iha ihb d r K hd T h
    rw [tH_2] at hd
    obtain ⟨d, rfl⟩ : ∃ e, d = e + 1 := ⟨d - 1, by omega⟩
    rw [TsN_aN] at T
    obtain ⟨e, rfl, -, hs, ho, hrest⟩ := T
    obtain ⟨Ta, Tb⟩ : TsN σ A a (σ.r e 5) ∧ TsN σ A b' (σ.r e 6) := by
      rcases hrest with ⟨q, -⟩ | ⟨q, -⟩ | ⟨-, q1, q2⟩
      · omega
      · omega
      · exact ⟨q1, q2⟩
    have n5 : ¬ σ.r e 5 = Rf.nul := fun q => ts_nn wa ((ts_nil Ta).mp q)
    have n6 : ¬ σ.r e 6 = Rf.nul := fun q => ts_nn wb ((ts_nil Tb).mp q)
    have ho9 : ¬ σ.i e 0 = 9 := fun q => by
      rw [ho] at q
      rcases hop with rfl | rfl <;> exact absurd q (by decide)
    have h : K (.inl (some (.int (if (kmB a || kmB b') = true then 1 else 0)))) σ := by
      rcases hop with rfl | rfl <;> exact h
    refine S_X23_asksKinds_0 F ⟨e, rfl, hs, fun q => absurd q ho9, fun _ => ⟨fun q => absurd q n5, fun _ => iha d _ _ (by omega) Ta ?_⟩⟩
    cases qa : kmB a <;> rw [qa] at h
    · refine ⟨fun q => absurd rfl q, fun _ => S_X23_asksKinds_26 F ⟨hs, fun q => absurd q n6, fun _ => ihb d _ _ (by omega) Tb ?_⟩⟩
      cases qb : kmB b' <;> rw [qb] at h
      · exact ⟨fun _ => h, fun q => absurd rfl q⟩
      · exact ⟨fun q => absurd q (by decide), fun _ => h⟩
    · exact ⟨fun _ => h, fun q => absurd q (by decide)⟩
  · intro y w a wa iha d r K hd T h
    rw [tH_2] at hd
    obtain ⟨d, rfl⟩ : ∃ e, d = e + 1 := ⟨d - 1, by omega⟩
    rw [TsN_aN] at T
    obtain ⟨e, rfl, -, hs, ho, hrest⟩ := T
    obtain ⟨Ta, Tb⟩ : TsN σ A a (σ.r e 5) ∧ TsN σ A .nil (σ.r e 6) := by
      rcases hrest with ⟨q, -⟩ | ⟨q, -⟩ | ⟨-, q1, q2⟩
      · omega
      · omega
      · exact ⟨q1, q2⟩
    have Tb : σ.r e 6 = Rf.nul := Tb
    have n5 : ¬ σ.r e 5 = Rf.nul := fun q => ts_nn wa ((ts_nil Ta).mp q)
    have ho : σ.i e 0 = 22 := ho
    have h : K (.inl (some (.int (if (kmB a || kmB .nil) = true then 1 else 0)))) σ := h
    rw [show kmB .nil = false from rfl, Bool.or_false] at h
    refine S_X23_asksKinds_0 F ⟨e, rfl, hs, fun q => absurd (ho.symm.trans q) (by decide), fun _ => ⟨fun q => absurd q n5, fun _ => iha d _ _ (by omega) Ta ?_⟩⟩
    cases qa : kmB a <;> rw [qa] at h
    · exact ⟨fun q => absurd rfl q, fun _ => S_X23_asksKinds_26 F ⟨hs, fun _ => h, fun q => absurd Tb q⟩⟩
    · exact ⟨fun _ => h, fun q => absurd q (by decide)⟩
/-- isSeveral(), for the mask of some numbers -/
theorem rf_isSeveral {d q l2 : Nat} {L : List Nat} {v : Nat → Int} (hW : WfW W) (hd : 250 ≤ d) (H : NwS W lst b wy σ) (M : MmR W wy σ) (hk : KnS 2185 k W.1.length (plW W.2.1 c) σ) (C : CoS W L σ) (hL : ∀ x ∈ L, (1 ≤ x ∧ x ≤ W.2.2.2.length) ∧ mcW W.2.2.2 x = c) (hlen : L.length ≤ 120) (h8 : (L.filter (akB W)).length ≤ 8) (hq : mkV (plW W.2.1 c) (blW W.1) k ((L.filter (akB W)).map (asM W.2.2.2)) v (L.filter (akB W)).length = q)
    (h : ∀ τ, FX ΦR τ.sh τ.r → GF (fun a j => (a = 0 ∧ (j = 74 ∨ j = 75)) ∨ a = 2131) σ τ → MmR W wy τ → K (.inl (some (.int (if foI (frI (fun x y => nrI W wy x y k) (L.filter (tkW W (plW W.2.1 c) k v))) < 0 then 1 else 0)))) τ) : B_X23_isSeveral_0 Z d σ (Int32.ofNat q) l2 K := by
  obtain ⟨d, rfl⟩ : ∃ e, d = e + 1 := ⟨d - 1, by omega⟩
  generalize hE0 : (fun a j => (a = 0 ∧ (j = 74 ∨ j = 75)) ∨ a = 2131) = E0 at h
  have E0i : ∀ a j, E0 a j ↔ ((a = 0 ∧ (j = 74 ∨ j = 75)) ∨ a = 2131) := fun a j => by rw [← hE0]
  have hE : ∀ a j, E0 a j → nwE a j := fun a j q => by
    rw [E0i] at q
    unfold nwE
    omega
  have hE2 : ∀ a j, E0 a j → chE a j := fun a j q => by
    rw [E0i] at q
    unfold chE
    omega
  have hq256 : q < 256 := by
    have h1 := mkV_lt (pl := plW W.2.1 c) (bl := blW W.1) (k := k) (as := (L.filter (akB W)).map (asM W.2.2.2)) (v := v) (L.filter (akB W)).length
    have h2 := pw_8 h8
    omega
  -- the bit of a method that asks
  have bit : ∀ j x, (L.filter (akB W))[j]? = some x → (((Int32.ofNat q >>> (Int32.ofNat j &&& 31)) &&& (1 : Int32)) = 0 ↔ tkW W (plW W.2.1 c) k v x = false) := fun j x hx => by
    have hj := (List.getElem?_eq_some_iff.mp hx).1
    have e1 := ms_bit ⟨q, hq256⟩ ⟨j, by omega⟩
    have e1 : (((Int32.ofNat q >>> (Int32.ofNat j &&& 31)) &&& (1 : Int32)) = 0 ↔ q / 2 ^ j % 2 = 0) := e1
    rw [e1, ← hq, mkV_bit _ j hj, List.getElem?_map, hx]
    show (if tkM (plW W.2.1 c) (spM W.2.2.2 x) (blW W.1) k (tsM W.2.2.2 x) v = true then 1 else 0) = 0 ↔ _
    unfold tkW
    cases tkM (plW W.2.1 c) (spM W.2.2.2 x) (blW W.1) k (tsM W.2.2.2 x) v <;> simp
  have loop : ∀ r j τ, L.length - j = r → j ≤ L.length → GF E0 σ τ → FX ΦR τ.sh τ.r → MmR W wy τ → LfS τ ((L.take j).filter (tkW W (plW W.2.1 c) k v)) → B_X23_isSeveral_10 Z (d + 1) τ (Int32.ofNat q) (Int32.ofNat ((L.take j).filter (akB W)).length) (Int32.ofNat j) K := by
    intro r
    induction r with
    | zero =>
      intro j τ hr hj g F Mτ Lf
      have e : j = L.length := by omega
      subst e
      have Hτ := H.ge g hE F
      have Cτ := C.ge g (fun j z => by rw [E0i] at z; omega) (fun j z => by rw [E0i] at z; omega) (fun j _ z => by rw [E0i] at z; omega)
      have kτ := hk.ge g (fun j z => by rw [E0i] at z; omega)
      rw [List.take_length] at Lf
      refine S_X23_isSeveral_10 F ⟨fun _ => ?_, fun z => absurd (by rw [Cτ.1.1]; exact Int32.le_refl _) z⟩
      refine rf_firstOf hW (by omega) Hτ Mτ Lf (fun x hx => hL x (List.mem_filter.mp hx).1) (by omega) kτ (fun υ Fυ gυ Mυ _ => ?_)
      have gE : GF E0 τ υ := gυ.le (fun a j z => by rw [E0i]; omega)
      have hK := h υ Fυ (g.tr gE) Mυ
      have fr := foI_r (frI (fun x y => nrI W wy x y k) (L.filter (tkW W (plW W.2.1 c) k v))) _ frI_lt
      have fl := List.length_filter_le (tkW W (plW W.2.1 c) k v) L
      refine ⟨fun z => ?_, fun z => ?_⟩
      · rw [Int32.le_iff_toInt_le, oI_i (by omega) (by omega)] at z
        have z : 0 ≤ foI (frI (fun x y => nrI W wy x y k) (L.filter (tkW W (plW W.2.1 c) k v))) := z
        rw [if_neg (by omega)] at hK
        exact hK
      · rw [Int32.le_iff_toInt_le, oI_i (by omega) (by omega)] at z
        have z : ¬ 0 ≤ foI (frI (fun x y => nrI W wy x y k) (L.filter (tkW W (plW W.2.1 c) k v))) := z
        rw [if_pos (by omega)] at hK
        exact hK
    | succ r ih =>
      intro j τ hr hj g F Mτ Lf
      have hlt : j < L.length := by omega
      have e : L[j]? = some L[j] := List.getElem?_eq_getElem hlt
      have Cτ := C.ge g (fun j z => by rw [E0i] at z; omega) (fun j z => by rw [E0i] at z; omega) (fun j _ z => by rw [E0i] at z; omega)
      have ef : ∀ p : Nat → Bool, (L.take (j + 1)).filter p = (L.take j).filter p ++ if p L[j] = true then [L[j]] else [] := fun p => by
        rw [List.take_add_one, e]
        show List.filter p (L.take j ++ [L[j]]) = _
        rw [List.filter_append, List.filter_cons]
        split <;> rfl
      have efa := ef (akB W)
      have eft := ef (tkW W (plW W.2.1 c) k v)
      have hmc := (hL _ (List.getElem_mem hlt)).2
      have al : ((L.take j).filter (akB W)).length ≤ (L.filter (akB W)).length := by
        have : L.filter (akB W) = (L.take j).filter (akB W) ++ (L.drop j).filter (akB W) := by
          rw [← List.filter_append, List.take_append_drop]
        rw [this, List.length_append]
        omega
      have tl : ((L.take j).filter (tkW W (plW W.2.1 c) k v)).length ≤ j := by
        have := List.length_filter_le (tkW W (plW W.2.1 c) k v) (L.take j)
        rw [List.length_take] at this
        omega
      -- with or without it
      have p64 : ∀ (s : Int32) (aN' : Nat), (s = if tkW W (plW W.2.1 c) k v L[j] = true then 1 else 0) → aN' = ((L.take (j + 1)).filter (akB W)).length → B_X23_isSeveral_64 Z (d + 1) τ (Int32.ofNat q) (Int32.ofNat aN') (Int32.ofNat j) s K := by
        rintro s aN' rfl rfl
        refine S_X23_isSeveral_64 F ⟨fun z => ⟨ib_oN (by omega) (by decide), ?_, ?_⟩, fun z => ?_⟩
        · rw [Lf.1]
          exact ib_oN (by omega) (by decide)
        · have ht : tkW W (plW W.2.1 c) k v L[j] = true := by
            cases w : tkW W (plW W.2.1 c) k v L[j] with
            | true => rfl
            | false =>
              rw [w] at z
              exact absurd rfl z
          rw [if_pos ht] at eft
          rw [Lf.1, oN_t (by omega), oN_t (by omega), Cτ.1.2 j _ e, oN_1 j, oN_1 ((L.take j).filter (tkW W (plW W.2.1 c) k v)).length]
          refine ih (j + 1) _ (by omega) (by omega) (g.tr ((GF.wi (by rw [E0i]; omega)).tr (GF.wi (by rw [E0i]; omega)))) F (Mτ.same (by rw [wi_row (by decide), wi_row (by decide)]) (by rw [wi_row (by decide), wi_row (by decide)])) ?_
          rw [eft]
          refine ⟨?_, ?_, fun i x hx => ?_⟩
          · rw [wi_at, List.length_append]
            rfl
          · rw [List.length_append]
            show _ + 1 ≤ 120
            omega
          · rw [wi_ne (by omega)]
            rcases snoc_get hx with ⟨a1, a2⟩ | ⟨a1, a2⟩
            · rw [wi_ne (by omega)]
              exact Lf.2.2 i x a2
            · rw [a1, a2, wi_at]
        · have ht : tkW W (plW W.2.1 c) k v L[j] = false := by
            cases w : tkW W (plW W.2.1 c) k v L[j] with
            | false => rfl
            | true =>
              rw [w] at z
              exact absurd z (by decide)
          rw [ht] at eft
          have eft : (L.take (j + 1)).filter (tkW W (plW W.2.1 c) k v) = (L.take j).filter (tkW W (plW W.2.1 c) k v) := eft.trans (List.append_nil _)
          rw [oN_1 j]
          exact ih (j + 1) τ (by omega) (by omega) g F Mτ (by rw [eft]; exact Lf)
      refine S_X23_isSeveral_10 F ⟨fun z => ?_, fun _ => ⟨fun z => ?_, fun z => ⟨ib_oN (by omega) (by decide), ib_oN (by omega) (by decide), ?_⟩⟩⟩
      · exfalso
        rw [Cτ.1.1, oN_le (by omega) (by omega)] at z
        omega
      · -- no more that ask
        rw [Cτ.2.1.1, oN_le (by omega) (by omega)] at z
        have hna : akB W L[j] = false := by
          cases w : akB W L[j] with
          | false => rfl
          | true =>
            have := fl_next L j _ e w
            have := (List.getElem?_eq_some_iff.mp this).1
            omega
        rw [hna] at efa
        have efa : (L.take (j + 1)).filter (akB W) = (L.take j).filter (akB W) := efa.trans (List.append_nil _)
        refine p64 1 _ ?_ (by rw [efa])
        rw [if_pos (tk_free (by rw [hmc]) hna)]
      · rw [Cτ.2.1.1, oN_le (by omega) (by omega)] at z
        have hx : ∃ x, (L.filter (akB W))[((L.take j).filter (akB W)).length]? = some x := ⟨_, List.getElem?_eq_getElem (by omega)⟩
        obtain ⟨x, hx⟩ := hx
        have hxa := (List.mem_filter.mp (List.mem_of_getElem? hx))
        have hxr := (hL x hxa.1).1
        have hjr := (hL _ (List.getElem_mem hlt)).1
        have h120 := H.2.2.1.2
        rw [oN_t (by omega), oN_t (by omega), Cτ.2.1.2 _ _ hx, Cτ.1.2 j _ e, oN_eq (by omega) (by omega)]
        refine ⟨fun w => ?_, fun w => ?_⟩
        · have hna : akB W L[j] = false := by
            cases y : akB W L[j] with
            | false => rfl
            | true =>
              have := fl_next L j _ e y
              rw [hx] at this
              cases this
              exact absurd rfl w
          rw [hna] at efa
          have efa : (L.take (j + 1)).filter (akB W) = (L.take j).filter (akB W) := efa.trans (List.append_nil _)
          refine p64 1 _ ?_ (by rw [efa])
          rw [if_pos (tk_free (by rw [hmc]) hna)]
        · have hya : akB W L[j] = true := by
            rw [← w]
            exact hxa.2
          rw [if_pos hya] at efa
          have hb := bit _ x hx
          rw [hb]
          have fin : ∀ s : Int32, (s = if tkW W (plW W.2.1 c) k v L[j] = true then 1 else 0) → B_X23_isSeveral_59 Z (d + 1) τ (Int32.ofNat q) (Int32.ofNat ((L.take j).filter (akB W)).length) (Int32.ofNat j) s K := by
            intro s hs
            refine S_X23_isSeveral_59 F ?_
            rw [oN_1]
            refine p64 s _ hs ?_
            rw [efa, List.length_append]
            rfl
          rw [w]
          refine ⟨fun y => fin 0 ?_, fun y => fin 1 ?_⟩
          · rw [y]
            rfl
          · rw [if_pos]
            cases y2 : tkW W (plW W.2.1 c) k v L[j] with
            | true => rfl
            | false => exact absurd y2 y
  refine S_X23_isSeveral_0 H.1 ?_
  have := loop L.length 0 (σ.wi 0 74 (0 : Int32)) (by omega) (Nat.zero_le _) (GF.wi (by rw [E0i]; omega)) H.1 (M.same (wi_row (by decide)) (wi_row (by decide))) ⟨wi_at _ _ _ _, by show 0 ≤ 120; omega, fun i x hx => by cases hx⟩
  exact this
end JUDGE2

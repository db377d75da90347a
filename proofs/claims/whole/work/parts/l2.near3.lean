/-! THE CLASS: who asks more, whole -/
section NEAR3
variable {Z : zT} {d A : Nat} {as : List AkQ} {q : AkQ} {σ τ υ : Sg} {K : kS} {C : Nat × Nat × Nat × Nat} {W : Wld} {E : Nat → Prop} {a0 j j' kA pl w : Nat} {k k' : Nat → Nat} {x x' : Mtd × Bool} {y : Nat → Int} {β : Nat → Bool} {v : Nat → Int}
theorem asQ_W (h : SkR C W a0 σ) (hx : W.2.2.2[j]? = some x) : AkW (asQ (blW W.1) k x.1.2.2.2.1 x.1.2.2.2.2.1) ∧ (asQ (blW W.1) k x.1.2.2.2.1 x.1.2.2.2.2.1).length ≤ 9 := by
  obtain ⟨hj, mt, wf⟩ := h.at hx
  obtain ⟨t1, t2, t3, t4, t5⟩ := mt.2.2.2.2.1
  have pp := h.plx hx
  have w6 : ∀ s ∈ x.1.2.2.2.1, (0 ≤ s.1 ∧ s.1 < (W.1.length : Int)) ∧ (-2147483647 ≤ s.2.2 ∧ s.2.2 ≤ 2147483647) := by
    obtain ⟨k0, w1, w2, w3, w4, w5, w6, -⟩ := wf
    exact w6
  have eq : ∀ p, p < 3 → ∀ q ∈ eqA x.1.2.2.2.1 p, q.2.1 < 4 ∧ q.2.2.1 < 4 ∧ -8589934592 ≤ q.2.2.2 ∧ q.2.2.2 ≤ 8589934592 := fun p hp q hq => by
    unfold eqA at hq
    split at hq
    · rw [List.mem_singleton] at hq
      subst hq
      have := sp_r w6 p
      dsimp only
      omega
    · cases hq
  have l1 : ∀ p, (eqA x.1.2.2.2.1 p).length ≤ 1 := fun p => by
    rw [eqA_len]
    split <;> omega
  have a0' := l1 0
  have a1 := l1 1
  have a2 := l1 2
  refine ⟨fun q hq => ?_, ?_⟩
  · unfold asQ at hq
    rcases List.mem_append.mp hq with hq | hq
    · exact eq 0 (by omega) q hq
    rcases List.mem_append.mp hq with hq | hq
    · exact eq 1 (by omega) q hq
    rcases List.mem_append.mp hq with hq | hq
    · exact eq 2 (by omega) q hq
    obtain ⟨l, hl, rfl⟩ := List.mem_map.mp hq
    rcases pp.2.2.1 with e | e
    · rw [e] at hl
      cases hl
    · exact lfA_W e hl pp.1
  · unfold asQ
    rw [List.length_append, List.length_append, List.length_append, List.length_map]
    omega
/-- nothing is asked -/
theorem tk_nil (h : SkR C W a0 σ) (hx : W.2.2.2[j]? = some x) (e : (asQ (blW W.1) k x.1.2.2.2.1 x.1.2.2.2.2.1).length = 0) (pl : Nat) (hp : pl ≤ 3) (v : Nat → Int) : tkM pl x.1.2.2.2.1 (blW W.1) k x.1.2.2.2.2.1 v = true := by
  obtain ⟨hj, mt, wf⟩ := h.at hx
  obtain ⟨t1, t2, t3, t4, t5⟩ := mt.2.2.2.2.1
  have w8 : x.1.2.2.2.2.1 ≠ .nil → 1 ≤ lfN x.1.2.2.2.2.1 := by
    obtain ⟨k0, w1, w2, w3, w4, w5, w6, w7, ⟨w8, w9, w10, w11⟩, -⟩ := wf
    exact w10
  unfold asQ at e
  rw [List.length_append, List.length_append, List.length_append, List.length_map] at e
  have no : ∀ p, p < 3 → hsI x.1.2.2.2.1 p = false := fun p hp => by
    have : (eqA x.1.2.2.2.1 p).length = 0 := by
      have : p = 0 ∨ p = 1 ∨ p = 2 := by omega
      rcases this with rfl | rfl | rfl <;> omega
    rw [eqA_len] at this
    by_cases hh : hsI x.1.2.2.2.1 p = true
    · rw [if_pos hh] at this
      cases this
    · exact Bool.eq_false_iff.mpr hh
  have en : x.1.2.2.2.2.1 = .nil := Classical.byContradiction fun q => by
    have := w8 q
    omega
  unfold tkM
  rw [en, Bool.and_eq_true_iff, List.all_eq_true]
  refine ⟨fun i hi => ?_, rfl⟩
  rw [no i (by have := List.mem_range.mp hi; omega)]
  rfl
theorem akI_0 {pl : Nat} {bl : Nat → Nat → Bool} {X Y : List Spc × Ast} (h : ∀ v, tkM pl X.1 bl k X.2 v = true) (g : ∀ v, tkM pl Y.1 bl k Y.2 v = true) : akI pl bl k X Y = 0 := by
  unfold akI alP
  simp only [h, g, Bool.true_eq_false, and_false, false_and, exists_const]
  rfl
/-- is-tests settle it -/
theorem ak_set (h : SkR C W a0 σ) (hx : W.2.2.2[j]? = some x) (hx' : W.2.2.2[j']? = some x') (hc : x.1.1 = x'.1.1) (e1 : itM W k' (j + 1) = itM W k (j + 1)) (e2 : itM W k' (j' + 1) = itM W k (j' + 1)) : akN W (j + 1) (j' + 1) k' = akN W (j + 1) (j' + 1) k := by
  have p1 := h.plx hx
  have p2 := h.plx hx'
  rw [← hc] at p2
  have lv : ∀ {j : Nat} {x : Mtd × Bool}, W.2.2.2[j]? = some x → itM W k' (j + 1) = itM W k (j + 1) → ∀ l ∈ lvT x.1.2.2.2.2.1, itB (blW W.1) k' l = itB (blW W.1) k l := fun {j x} hx e l hl => by
    unfold itM at e
    rw [(spM_at hx).2.1] at e
    obtain ⟨i, hi⟩ := List.mem_iff_getElem?.mp hl
    exact itF_inj _ _ e i l (List.getElem?_eq_some_iff.mp hi).1 hi
  unfold akN
  rw [(spM_at hx).1, (spM_at hx).2.1, (spM_at hx).2.2, (spM_at hx').1, (spM_at hx').2.1]
  exact ak_cgk (tk_cgk p1.2.2.1 (lv hx e1)) (tk_cgk p2.2.2.1 (lv hx' e2))
theorem akN_r (W : Wld) (m n : Nat) (k : Nat → Nat) : -1 ≤ akN W m n k ∧ akN W m n k ≤ 1 := akI_r ..
theorem sq_inj {S m n m' n' : Nat} (hn : n < S) (hn' : n' < S) (h : m * S + n = m' * S + n') : m = m' ∧ n = n' := by
  have hS : 0 < S := by omega
  have e1 : (m * S + n) / S = m := by rw [Nat.mul_comm, Nat.mul_add_div hS, Nat.div_eq_of_lt hn, Nat.add_zero]
  have e2 : (m' * S + n') / S = m' := by rw [Nat.mul_comm, Nat.mul_add_div hS, Nat.div_eq_of_lt hn', Nat.add_zero]
  have e : m = m' := by rw [← e1, ← e2, h]
  subst e
  exact ⟨rfl, by omega⟩
theorem sq_lt {S m n : Nat} (hm : m < S) (hn : n < S) : m * S + n < S * S := by
  have : (m + 1) * S ≤ S * S := Nat.mul_le_mul_right _ hm
  rw [Nat.add_mul, Nat.one_mul] at this
  omega
theorem pw_7 {e : Nat} (h : 3 ≤ e ∧ e ≤ 7) : 8 ≤ 2 ^ e ∧ 2 ^ e ≤ 128 := by
  have a : 2 ^ 3 ≤ 2 ^ e := Nat.pow_le_pow_right (by decide) h.1
  have b : 2 ^ e ≤ 2 ^ 7 := Nat.pow_le_pow_right (by decide) h.2
  omega
theorem NgS.len {e : Nat} (h : NgS e σ) : sqA σ < σ.sh.length := (List.getElem?_eq_some_iff.mp h.2.2.2.1).1
theorem NgS.keep {e : Nat} (h : NgS e σ) (hr : τ.r 46 3 = σ.r 46 3) (h2 : τ.i 46 2 = σ.i 46 2) (hs : ∀ s, σ.sh[sqA σ]? = some s → τ.sh[sqA σ]? = some s) : NgS e τ := by
  have e := sqA_g hr
  obtain ⟨h1, h2', h3, h4, h5⟩ := h
  refine ⟨h1, h2.trans h2', ?_, ?_, ?_⟩
  · rw [hr, e]
    exact h3
  · rw [e]
    exact hs _ h4
  · rw [e]
    exact h5
theorem NcS.keep (h : NcS W σ) (hr : τ.r 46 3 = σ.r 46 3) (h2 : τ.i 46 2 = σ.i 46 2) (hs : ∀ s, σ.sh[sqA σ]? = some s → τ.sh[sqA σ]? = some s) (hi : τ.i (sqA σ) = σ.i (sqA σ)) : NcS W τ := by
  obtain ⟨e, ng, se⟩ := h
  refine ⟨e, ng.keep hr h2 hs, fun m n hm hn => ?_⟩
  rw [sqA_g hr, hi]
  exact se m n hm hn
theorem NhF.refl (σ : Sg) : NhF σ σ := ⟨GnF.refl _ _, Or.inl rfl, SzH.refl rfl rfl⟩
theorem NhF.tr (h : NhF σ τ) (g : NhF τ υ) : NhF σ υ := by
  have hl := h.1.len
  obtain ⟨h1, h2, h3⟩ := h
  obtain ⟨g1, g2, g3⟩ := g
  refine ⟨h1.tr g1 (fun a ha q => ?_), by omega, h3.tr g3⟩
  unfold neE at q ⊢
  omega
theorem XF.nh (h : XF E σ τ) (hE : ∀ a, E a → 47 ≤ a ∧ a ≤ 55) : NhF σ τ := by
  refine ⟨h.gn.mono (fun a _ q => Or.inl (by have := hE a q; omega)), Or.inl (sqA_g (by rw [h.2.1])), SzH.refl h.1 (h.2.2 46 (fun q => by have := hE _ q; omega)).1⟩
theorem NhF.wi {j : Nat} {v : Int32} (h : NhF σ τ) (hA : sqA τ ≠ 46) : NhF σ (τ.wi (sqA τ) j v) := by
  obtain ⟨h1, h2, h3⟩ := h
  refine ⟨⟨h1.1, h1.2.1, fun a ha q => ⟨(funext fun k => wi_ne (fun z => q ?_)).trans (h1.2.2 a ha q).1, (h1.2.2 a ha q).2⟩⟩, h2, ?_⟩
  · unfold neE
    omega
  · have : sdN (τ.wi (sqA τ) j v) = sdN τ := sdN_g (funext fun k => wi_ne (fun z => hA z.1.symm))
    unfold SzH at h3 ⊢
    rw [this]
    exact h3
/-- where the code lies, the square doesn't -/
def CnA (C : Nat × Nat × Nat × Nat) (σ : Sg) : Prop := ∀ a, (a = C.2.1 ∨ a = C.2.2.1 ∨ a = C.2.2.2) → a < σ.sh.length ∧ a ≠ sqA σ
theorem CnA.xf (h : CnA C σ) (g : XF E σ τ) : CnA C τ := fun a q => by
  rw [sqA_g (show τ.r 46 3 = σ.r 46 3 by rw [g.2.1]), g.1]
  exact h a q
theorem CnA.nh (h : CnA C σ) (g : NhF σ τ) : CnA C τ := fun a q => by
  have := h a q
  have hl := g.1.len
  have := g.2.1
  omega
theorem SkR.gn (h : SkR C W a0 σ) (g : GnF E σ τ) (hE : ∀ a, E a → 46 ≤ a) (hC : ∀ a, (a = C.2.1 ∨ a = C.2.2.1 ∨ a = C.2.2.2) → a < σ.sh.length ∧ ¬ E a) : SkR C W a0 τ := by
  have l100 : 101 < σ.sh.length := (List.getElem?_eq_some_iff.mp (h.1.s (a := 101) t0_101)).1
  have gi : ∀ a j, a < 46 → τ.i a j = σ.i a j := fun a j q => congrFun (g.2.2 a (by omega) (fun z => by have := hE a z; omega)).1 j
  have gl : ∀ a j, a < 46 → τ.l a j = σ.l a j := fun a j q => congrFun (g.2.2 a (by omega) (fun z => by have := hE a z; omega)).2 j
  have gc : ∀ a j, (a = C.2.1 ∨ a = C.2.2.1 ∨ a = C.2.2.2) → τ.i a j = σ.i a j := fun a j q => congrFun (g.2.2 a (hC a q).1 (hC a q).2).1 j
  obtain ⟨f, ⟨k1, k2, k3⟩, ww, ⟨c1, c2⟩, m, wf, y⟩ := h
  exact ⟨g.fx f, ⟨(gi 28 0 (by omega)).trans k1, k2, fun k x hx => (gi 3 k (by omega)).trans (k3 k x hx)⟩, ww.keep k2 (fun k _ => ⟨gi 4 k (by omega), gi 5 k (by omega), fun w _ i _ => ⟨gi 7 _ (by omega), gi 8 _ (by omega)⟩⟩), ⟨c1, fun k x hx => ⟨(gi 31 k (by omega)).trans (c2 k x hx).1, (c2 k x hx).2⟩⟩, m.keep (gi 10 0 (by omega)) ((gi 24 3 (by omega)).trans m.2.2.1) ⟨Nat.le_refl _, m.2.2.2.1.2⟩ (fun a j q => gi a j (by unfold mtI at q; omega)) (fun a j q => gl a j (by unfold mtL at q; omega)) (fun j _ => ⟨gc _ j (Or.inl rfl), gc _ j (Or.inr (Or.inl rfl)), gc _ j (Or.inr (Or.inr rfl))⟩), wf, y⟩
theorem SkR.nh (h : SkR C W a0 σ) (cn : CnA C σ) (st : sqA σ = 47 ∨ 102 ≤ sqA σ) (g : NhF σ τ) : SkR C W a0 τ := by
  have y := h.2.2.2.2.2.2
  refine h.gn g.1 (fun a q => ?_) (fun a q => ⟨(cn a q).1, fun z => ?_⟩)
  · unfold neE at q
    omega
  · have := (cn a q).2
    unfold neE at z
    omega
theorem KaS.gn (h : KaS W kA pl k σ) (g : GnF E σ τ) (hE : ¬ E kA) : KaS W kA pl k τ := by
  obtain ⟨⟨n, h1, h2⟩, h3⟩ := h
  refine ⟨⟨n, h1, g.sh h2⟩, ?_⟩
  rw [(g.2.2 kA (List.getElem?_eq_some_iff.mp h2).1 hE).1]
  exact h3
/-- the square has room for all -/
theorem cl_roomFor {L : Nat} (F : FX ΦC σ.sh σ.r) (hL : σ.i 10 0 = Int32.ofNat L) (h120 : L ≤ 120) (nc : NcS W σ) (kk : ∀ τ e, NhF σ τ → (∀ a, a < σ.sh.length → a ≠ 46 → τ.i a = σ.i a ∧ τ.l a = σ.l a) → NgS e τ → (∀ m n, m < 2 ^ e → n < 2 ^ e → SeT W m n (τ.i (sqA τ) (m * 2 ^ e + n))) → L < 2 ^ e → K (.inl none) τ) : C_X6_makeRoomForAll_0 Z (d + 1) σ K := by
  have l100 : 101 < σ.sh.length := (List.getElem?_eq_some_iff.mp (F.s (a := 101) t0_101)).1
  obtain ⟨e, ng, se⟩ := nc
  have hp := pw_7 ng.1
  have hg3 := ng.1
  refine T_X6_makeRoomForAll_0 F ?_
  rw [hL, ng.2.1, oN_lt (by omega) (by omega)]
  refine ⟨fun z => kk σ e (NhF.refl _) (fun _ _ _ => ⟨rfl, rfl⟩) ng se z, fun z => ?_⟩
  have fin : ∀ e', e + 1 ≤ e' → e' ≤ 7 → L < 2 ^ e' → ¬ ((Int32.ofNat (2 ^ e') * Int32.ofNat (2 ^ e')) < 0 ∨ 60000000 < ((Int32.ofNat (2 ^ e') * Int32.ofNat (2 ^ e'))).toNatClampNeg) ∧ K (.inl none) (((σ.wi 46 2 (Int32.ofNat (2 ^ e'))).al (Sh.arr 0 ((Int32.ofNat (2 ^ e') * Int32.ofNat (2 ^ e'))).toNatClampNeg)).wr 46 3 (Rf.ptr σ.sh.length)) := fun e' h1 h2 h3 => by
    have hp' := pw_7 (e := e') ⟨by omega, h2⟩
    have m1 : 2 ^ e' * 2 ^ e' ≤ 128 * 128 := Nat.mul_le_mul hp'.2 hp'.2
    have tw : 2 * 2 ^ e ≤ 2 ^ e' := by
      have : 2 ^ (e + 1) ≤ 2 ^ e' := Nat.pow_le_pow_right (by decide) h1
      rw [Nat.pow_succ] at this
      omega
    have m2 : (2 * 2 ^ e) * (2 * 2 ^ e) ≤ 2 ^ e' * 2 ^ e' := Nat.mul_le_mul tw tw
    have m3 : (2 * 2 ^ e) * (2 * 2 ^ e) = 4 * (2 ^ e * 2 ^ e) := by
      rw [Nat.mul_mul_mul_comm]
    have m4 : 8 * 8 ≤ 2 ^ e * 2 ^ e := Nat.mul_le_mul hp.1 hp.1
    rw [oN_mul, oN_t (by omega)]
    refine ⟨fun q => ?_, ?_⟩
    · rcases q with q | q
      · rw [Int32.lt_iff_toInt_lt, oN_i (by omega)] at q
        have : (0 : Int32).toInt = 0 := rfl
        omega
      · omega
    · have fr : ∀ a, a < σ.sh.length → a ≠ 46 → (((σ.wi 46 2 (Int32.ofNat (2 ^ e'))).al (Sh.arr 0 (2 ^ e' * 2 ^ e'))).wr 46 3 (Rf.ptr σ.sh.length)).i a = σ.i a ∧ (((σ.wi 46 2 (Int32.ofNat (2 ^ e'))).al (Sh.arr 0 (2 ^ e' * 2 ^ e'))).wr 46 3 (Rf.ptr σ.sh.length)).l a = σ.l a := fun a ha hn => by
        refine ⟨funext fun j => ?_, funext fun j => ?_⟩
        · show (if a = σ.sh.length then 0 else (σ.wi 46 2 (Int32.ofNat (2 ^ e'))).i a j) = _
          rw [if_neg (by omega), wi_ne (fun z => hn z.1)]
        · show (if a = σ.sh.length then 0 else σ.l a j) = _
          rw [if_neg (by omega)]
      have st : sqA (((σ.wi 46 2 (Int32.ofNat (2 ^ e'))).al (Sh.arr 0 (2 ^ e' * 2 ^ e'))).wr 46 3 (Rf.ptr σ.sh.length)) = σ.sh.length := sqA_e (by rw [wr_at])
      have i46 : (((σ.wi 46 2 (Int32.ofNat (2 ^ e'))).al (Sh.arr 0 (2 ^ e' * 2 ^ e'))).wr 46 3 (Rf.ptr σ.sh.length)).i 46 2 = Int32.ofNat (2 ^ e') := by
        show (if 46 = σ.sh.length then 0 else (σ.wi 46 2 (Int32.ofNat (2 ^ e'))).i 46 2) = _
        rw [if_neg (by omega), wi_at]
      have shx : (((σ.wi 46 2 (Int32.ofNat (2 ^ e'))).al (Sh.arr 0 (2 ^ e' * 2 ^ e'))).wr 46 3 (Rf.ptr σ.sh.length)).sh = σ.sh ++ [Sh.arr 0 (2 ^ e' * 2 ^ e')] := rfl
      have z0 : ∀ j, (((σ.wi 46 2 (Int32.ofNat (2 ^ e'))).al (Sh.arr 0 (2 ^ e' * 2 ^ e'))).wr 46 3 (Rf.ptr σ.sh.length)).i σ.sh.length j = 0 := fun j => by
        show (if σ.sh.length = σ.sh.length then 0 else _) = (0 : Int32)
        rw [if_pos rfl]
      refine kk _ e' ⟨⟨⟨_, shx⟩, fun a k ha q => ?_, fun a ha q => fr a ha (fun z => q (Or.inl (by omega)))⟩, Or.inr (by rw [st]; exact Nat.le_refl _), ?_⟩ fr ⟨⟨by omega, h2⟩, i46, by rw [st, wr_at], ?_, by rw [st]; omega⟩ (fun m n _ _ => Or.inl (by rw [st]; exact z0 _)) h3
      · rw [wr_ne q]
        show (if a = σ.sh.length then Rf.nul else σ.r a k) = _
        rw [if_neg (by omega)]
      · have s1 : sdN σ = 2 ^ e * 2 ^ e := by
          unfold sdN
          rw [ng.2.1, oN_t (by omega)]
        have s2 : sdN (((σ.wi 46 2 (Int32.ofNat (2 ^ e'))).al (Sh.arr 0 (2 ^ e' * 2 ^ e'))).wr 46 3 (Rf.ptr σ.sh.length)) = 2 ^ e' * 2 ^ e' := by
          unfold sdN
          rw [i46, oN_t (by omega)]
        unfold SzH
        rw [s1, s2, shx, szS_app, List.length_append, show szS [Sh.arr 0 (2 ^ e' * 2 ^ e')] = 2 ^ e' * 2 ^ e' from Nat.add_zero _, List.length_singleton]
        omega
      · rw [st, shx, List.getElem?_append_right (Nat.le_refl _), Nat.sub_self]
        rfl
  have lp : ∀ n e' i, e' + n = 7 → e + i = e' → C_X6_makeRoomForAll_19 Z (d + 1) (σ.wi 46 2 (Int32.ofNat (2 ^ e'))) (Int32.ofNat i) K := by
    intro n
    induction n with
    | zero =>
      intro e' i h1 h2
      have e7 : e' = 7 := by omega
      have hne : e ≠ 7 := fun q => by
        rw [q] at z
        omega
      refine T_X6_makeRoomForAll_19 F ?_
      rw [wi_ne (show ¬ (10 = 46 ∧ 0 = 2) by decide), wi_at, hL, oN_lt (by omega) (by rw [e7]; decide), oN_1, show (120 : Int32) ≤ Int32.ofNat i ↔ 120 ≤ i from oN_le (a := 120) (by decide) (by omega)]
      exact ⟨fun q => absurd q (by omega), fun _ => ⟨fun q => fin e' (by omega) (by omega) q, fun q => absurd (by rw [e7]; omega) q⟩⟩
    | succ n ih =>
      intro e' i h1 h2
      have hp' := pw_7 (e := e') ⟨by omega, by omega⟩
      refine T_X6_makeRoomForAll_19 F ?_
      rw [wi_ne (show ¬ (10 = 46 ∧ 0 = 2) by decide), wi_at, hL, oN_lt (by omega) (by omega), oN_1, show (120 : Int32) ≤ Int32.ofNat i ↔ 120 ≤ i from oN_le (a := 120) (by decide) (by omega), wi_wi, show Int32.ofNat (2 ^ e') * (2 : Int32) = Int32.ofNat (2 ^ e' * 2) from oN_mul _ 2]
      refine ⟨fun q => absurd q (by omega), fun _ => ⟨fun q => ?_, fun _ => ?_⟩⟩
      · refine fin e' ?_ (by omega) q
        have : e' ≠ e := fun q2 => by
          subst q2
          exact z q
        omega
      · have := ih (e' + 1) (i + 1) (by omega) (by omega)
        rw [Nat.pow_succ] at this
        exact this
  have e0 : σ.wi 46 2 (Int32.ofNat (2 ^ e)) = σ := by
    rw [← ng.2.1]
    exact wi_id ..
  have := lp (7 - e) e 0 (by omega) rfl
  rw [e0] at this
  exact this
theorem cl_whoAsks (h : SkR C W a0 σ) (cn : CnA C σ) (ne : NeS W σ) (ka : KaS W kA pl k σ) (hk : (kA < 46 ∨ 55 < kA) ∧ kA ≤ 101) (hx : W.2.2.2[j]? = some x) (hx' : W.2.2.2[j']? = some x') (hc : x.1.1 = x'.1.1) (hpl : plW W.2.1 x.1.1.toNat = pl) (kk : ∀ τ, NhF σ τ → NeS W τ → K (.inl (some (.int (Int32.ofInt (akN W (j + 1) (j' + 1) k))))) τ) : C_X6_whoAsksMore_0 Z (d + 3) σ (Int32.ofNat (j + 1)) (Int32.ofNat (j' + 1)) kA K := by
  have hpl' : plW W.2.1 x'.1.1.toNat = pl := by rw [← hc]; exact hpl
  have hj := (h.at hx).1
  have hj' := (h.at hx').1
  have hjl := (List.getElem?_eq_some_iff.mp hx).1
  have hjl' := (List.getElem?_eq_some_iff.mp hx').1
  obtain ⟨aw, al⟩ := asQ_W (k := k) h hx
  obtain ⟨aw', al'⟩ := asQ_W (k := k) h hx'
  have p3 := (h.plx hx).1
  rw [hpl] at p3
  have sA : SpA 48 := Or.inl rfl
  have t6 := itM_lt (k := k) h hx
  have u6 := itM_lt (k := k) h hx'
  have ekN : akN W (j + 1) (j' + 1) k = akI pl (blW W.1) k (x.1.2.2.2.1, x.1.2.2.2.2.1) (x'.1.2.2.2.1, x'.1.2.2.2.2.1) := by
    unfold akN
    rw [(spM_at hx).1, (spM_at hx).2.1, (spM_at hx).2.2, (spM_at hx').1, (spM_at hx').2.1, hpl]
  have sq0 : sqA σ = 47 ∨ 102 ≤ sqA σ := by
    obtain ⟨e, ng, -⟩ := ne.2
    exact ng.2.2.2.2
  refine T_X6_whoAsksMore_0 h.1 (cl_asked (k := k) h hx (cl_asked (k := k) h hx' ?_))
  show (¬ Int32.ofNat _ + Int32.ofNat _ = 0 → _) ∧ (Int32.ofNat _ + Int32.ofNat _ = 0 → _)
  rw [oN_add, show Int32.ofNat ((asQ (blW W.1) k x.1.2.2.2.1 x.1.2.2.2.2.1).length + (asQ (blW W.1) k x'.1.2.2.2.1 x'.1.2.2.2.2.1).length) = 0 ↔ (asQ (blW W.1) k x.1.2.2.2.1 x.1.2.2.2.2.1).length + (asQ (blW W.1) k x'.1.2.2.2.1 x'.1.2.2.2.2.1).length = 0 from oN_eq (b := 0) (by omega) (by decide)]
  refine ⟨fun _ => ?_, fun z => ?_⟩
  · refine cl_roomFor (L := W.2.2.2.length) h.1 h.2.2.2.2.1.1 h.2.2.2.2.1.2.1 ne.2 (fun σ1 e f1 fr1 ng se hL => ?_)
    have l100 : 101 < σ.sh.length := (List.getElem?_eq_some_iff.mp (h.1.s (a := 101) t0_101)).1
    have kE : ¬ neE σ kA := fun q => by
      unfold neE at q
      omega
    have ka1 : KaS W kA pl k σ1 := ka.gn f1.1 kE
    have h1 : SkR C W a0 σ1 := h.nh cn sq0 f1
    have r1 : Rw0 48 σ1 := fun i j hi hj => by
      rw [(fr1 (48 + 7) (by omega) (by decide)).2]
      exact ne.1 i j hi hj
    have ne1 : NeS W σ1 := ⟨r1, e, ng, se⟩
    have sq1 := ng.2.2.2.2
    have hp := pw_7 ng.1
    have m1 : 2 ^ e * 2 ^ e ≤ 128 * 128 := Nat.mul_le_mul hp.2 hp.2
    have hs : (j + 1) * 2 ^ e + (j' + 1) < 2 ^ e * 2 ^ e := sq_lt (by omega) (by omega)
    dsimp only [yN]
    refine cl_isTests hx hpl h1 ka1 (cl_isTests hx' hpl' h1 ka1 ?_)
    have ky : ((((64 : Int32) ||| Int32.ofNat (itM W k (j + 1))) <<< ((6 : Int32) &&& 31)) ||| Int32.ofNat (itM W k (j' + 1))) = Int32.ofNat (kyW W (j + 1) (j' + 1) k) := by
      rw [show (64 : Int32) ||| Int32.ofNat (itM W k (j + 1)) = Int32.ofNat (1 * 2 ^ 6 + itM W k (j + 1)) from sh_or (s := 6) (p := 1) (by decide) (by omega) (by omega)]
      exact sh_or (s := 6) (by decide) (by omega) (by omega)
    have kb : kyW W (j + 1) (j' + 1) k < 8192 ∧ 4096 ≤ kyW W (j + 1) (j' + 1) k := by
      unfold kyW
      omega
    dsimp only [yI]
    rw [ky, ng.2.1, oN_mul, oN_add, oN_t (by omega)]
    generalize es : (j + 1) * 2 ^ e + (j' + 1) = s at hs ⊢
    refine ⟨sqA σ1, ng.2.2.1, _, ng.2.2.2.1, ib_oN hs (by omega), fun _ => ?_, fun hit => ⟨sqA σ1, ng.2.2.1, _, ng.2.2.2.1, ib_oN hs (by omega), ?_⟩⟩
    · refine cl_empty9 sA h1.1 (fun τ1 g1 S1 => ?_)
      have h11 := h1.xf (sA.xf g1) (fun a q => q)
      refine cl_cutBy (as := []) sA (by omega) hx hpl h11 (ka1.xf g1.1 (by omega)) S1 (by rw [List.length_nil]; omega) (fun τ2 f2 S2 => ?_)
      have f02 := g1.tr f2
      have h2 := h1.xf (sA.xf f02) (fun a q => q)
      rw [List.nil_append] at S2
      refine cl_cutBy sA (by omega) hx' hpl' h2 (ka1.xf f02.1 (by omega)) S2 (by omega) (fun τ3 f3 S3 => ?_)
      have f03 := f02.tr f3
      have h3 := h1.xf (sA.xf f03) (fun a q => q)
      refine cl_begin9 sA h3.1 S3 (ne1.1.ac f03) (fun τ4 f4 Q4 => ?_)
      have h4 : SkR C W a0 τ4 := h3.xf (f4.1.mono (E' := fun a => 46 ≤ a ∧ a ≤ 101) (fun a q => by omega)) (fun a q => q)
      have AW : AkW (asQ (blW W.1) k x.1.2.2.2.1 x.1.2.2.2.2.1 ++ asQ (blW W.1) k x'.1.2.2.2.1 x'.1.2.2.2.2.1) := fun q hq => (List.mem_append.mp hq).elim (aw q) (aw' q)
      have cov : ∀ f g : (Nat → Int) → Bool, FdI f g (fun _ => True) false := fun f g => ⟨fun z => (by cases z), fun _ v _ hn => absurd trivial hn⟩
      refine wa_134 AW hx hx' hpl hpl' rfl rfl rfl rfl τ4 (fun τ a b f5 ea eb => ?_) 1000000 0 false false (fun _ => True) τ4 (by omega) h4 (NxF.refl _ _) (S3.nx f4) Q4 SnC.zero (cov _ _) (cov _ _)
      have x5 : XF (fun a => 48 ≤ a ∧ a ≤ 55) σ1 τ := (f03.1.mono (fun a q => by omega)).tr ((f4.tr f5).1.mono (fun a q => by omega))
      have g5 : NhF σ τ := f1.tr (x5.nh (fun a q => by omega))
      have F5 : FX ΦC τ.sh τ.r := x5.fx h1.1
      have er5 : τ.r 46 3 = σ1.r 46 3 := by rw [x5.2.1]
      have e46 : τ.i 46 = σ1.i 46 := (x5.2.2 46 (by omega)).1
      have eA : τ.i (sqA σ1) = σ1.i (sqA σ1) := (x5.2.2 _ (by omega)).1
      have st5 : sqA τ = sqA σ1 := sqA_g er5
      have ng5 : NgS e τ := ng.keep er5 (by rw [e46]) (fun s hs => by rw [x5.1]; exact hs)
      have r0 : Rw0 48 τ := (ne1.1.ac f03).nx (f4.tr f5)
      have g2 : ∀ r : Int, r = akN W (j + 1) (j' + 1) k → C_X6_whoAsksMore_256 Z (d + 3) τ (Int32.ofNat s) (Int32.ofNat (kyW W (j + 1) (j' + 1) k)) (Int32.ofInt r) K := fun r er => by
        have rr := akN_r W (j + 1) (j' + 1) k
        rw [← er] at rr
        have e1 : Int32.ofInt r + 1 = Int32.ofNat (r + 1).toNat := by
          have : r = -1 ∨ r = 0 ∨ r = 1 := by omega
          rcases this with rfl | rfl | rfl <;> rfl
        refine T_X6_whoAsksMore_256 F5 ⟨sqA τ, ng5.2.2.1, _, ng5.2.2.2.1, ib_oN hs (by omega), ?_⟩
        rw [e1, show (Int32.ofNat (kyW W (j + 1) (j' + 1) k) <<< ((2 : Int32) &&& 31)) ||| Int32.ofNat (r + 1).toNat = Int32.ofNat (kyW W (j + 1) (j' + 1) k * 2 ^ 2 + (r + 1).toNat) from sh_or (s := 2) (by decide) (by omega) (by omega), oN_t (by omega)]
        rw [er]
        refine kk _ (g5.wi (by omega)) ⟨r0, e, ⟨ng5.1, ?_, ng5.2.2.1, ng5.2.2.2.1, ng5.2.2.2.2⟩, fun m n hm hn => ?_⟩
        · rw [wi_ne (by omega)]
          exact ng5.2.1
        · show SeT W m n ((τ.wi (sqA τ) s _).i (sqA τ) (m * 2 ^ e + n))
          by_cases q : m * 2 ^ e + n = s
          · rw [← es] at q
            obtain ⟨rfl, rfl⟩ := sq_inj hn (by omega) q
            rw [es, wi_at]
            refine Or.inr ⟨⟨by omega, by omega⟩, ⟨by omega, by omega⟩, by rw [(spM_at hx).2.2, (spM_at hx').2.2, hc], k, fun p hp => (ka.2 p (by rw [(spM_at hx).2.2, hpl] at hp; exact hp)).2, ?_⟩
            rw [Nat.mul_comm]
          · rw [wi_ne (by omega), st5, eA]
            exact se m n hm hn
      refine T_X6_whoAsksMore_235 F5 ?_
      have eq : akN W (j + 1) (j' + 1) k = if a = b then 0 else if a = true then 1 else -1 := by
        rw [ekN, ea, eb]
        rfl
      rw [i01]
      cases a <;> cases b
      · exact ⟨fun z => absurd rfl z, fun _ => g2 0 eq.symm⟩
      · exact ⟨fun _ => ⟨fun z => (by cases z), fun _ => g2 (-1) eq.symm⟩, fun z => absurd z (by decide)⟩
      · exact ⟨fun _ => ⟨fun _ => g2 1 eq.symm, fun z => absurd rfl z⟩, fun z => absurd z (by decide)⟩
      · exact ⟨fun z => absurd rfl z, fun _ => g2 0 eq.symm⟩
    · have sj := se (j + 1) (j' + 1) (by omega) (by omega)
      rw [es] at sj
      rcases sj with e0 | ⟨-, -, mc, k1, kv, ev⟩
      · rw [e0] at hit
        have h0 : (Int32.toUInt32 (0 : Int32) >>> (Int32.toUInt32 (2 : Int32) &&& Int32.toUInt32 31)).toInt32 = Int32.ofNat 0 := by decide
        rw [h0, oN_eq (by decide) (by omega)] at hit
        omega
      · have t7 := itM_lt (k := k1) h hx
        have u7 := itM_lt (k := k1) h hx'
        have rr := akN_r W (j + 1) (j' + 1) k1
        have kb1 : kyW W (j + 1) (j' + 1) k1 < 8192 := by
          unfold kyW
          omega
        rw [ev, ky_hi (by omega) (by omega), oN_eq (by omega) (by omega)] at hit
        rw [ev, ky_lo (by omega) (by omega)]
        unfold kyW at hit
        have e := ak_set h hx hx' hc (k' := k1) (k := k) (by omega) (by omega)
        rw [e] at rr ⊢
        have : Int32.ofNat (akN W (j + 1) (j' + 1) k + 1).toNat - 1 = Int32.ofInt (akN W (j + 1) (j' + 1) k) := by
          generalize akN W (j + 1) (j' + 1) k = r at rr ⊢
          have : r = -1 ∨ r = 0 ∨ r = 1 := by omega
          rcases this with rfl | rfl | rfl <;> decide
        rw [this]
        exact kk σ1 f1 ne1
  · have e : akN W (j + 1) (j' + 1) k = 0 := by
      rw [ekN]
      exact akI_0 (tk_nil h hx (by omega) pl p3) (tk_nil h hx' (by omega) pl p3)
    have := kk σ (NhF.refl _) ne
    rw [e] at this
    exact this
end NEAR3

/-! THE CLASS: who asks more, whole -/
section NEAR3
variable {Z : zT} {d A : Nat} {as : List AkQ} {q : AkQ} {σ τ υ : Sg} {K : kS} {C : Nat × Nat × Nat × Nat} {W : Wld} {a0 j j' kA pl w : Nat} {k k' : Nat → Nat} {x x' : Mtd × Bool} {y : Nat → Int} {β : Nat → Bool} {v : Nat → Int}
theorem asQ_W (h : SkR C W a0 σ) (hx : W.2.2.2[j]? = some x) : AkW (asQ (blW W.1) k x.1.2.2.2.1 x.1.2.2.2.2.1) ∧ (asQ (blW W.1) k x.1.2.2.2.1 x.1.2.2.2.2.1).length ≤ 9 := by
  obtain ⟨hj, mt, wf⟩ := h.at hx
  obtain ⟨t1, t2, t3, t4, t5⟩ := mt.2.2.2.2.1
  have pp := h.plx hx
  have w6 : ∀ s ∈ x.1.2.2.2.1, (0 ≤ s.1 ∧ s.1 < (W.1.length : Int)) ∧ (-2147483647 ≤ s.2.2 ∧ s.2.2 ≤ 2147483647) := by
    obtain ⟨k0, w1, w2, w3, w4, w5, w6, -⟩ := wf
    exact w6
  have eq : ∀ p, p < 3 → ∀ q ∈ eqA x.1.2.2.2.1 p, q.2.1 < 4 ∧ q.2.2.1 < 4 ∧ -8589934592 ≤ q.2.2.2 ∧ q.2.2.2 ≤ 8589934592 := fun p hp q hq => by
    unfold eqA at hq
    split at hq
    · rw [List.mem_singleton] at hq
      subst hq
      have := sp_r w6 p
      dsimp only
      omega
    · cases hq
  have l1 : ∀ p, (eqA x.1.2.2.2.1 p).length ≤ 1 := fun p => by
    rw [eqA_len]
    split <;> omega
  have a0' := l1 0
  have a1 := l1 1
  have a2 := l1 2
  refine ⟨fun q hq => ?_, ?_⟩
  · unfold asQ at hq
    rcases List.mem_append.mp hq with hq | hq
    · exact eq 0 (by omega) q hq
    rcases List.mem_append.mp hq with hq | hq
    · exact eq 1 (by omega) q hq
    rcases List.mem_append.mp hq with hq | hq
    · exact eq 2 (by omega) q hq
    obtain ⟨l, hl, rfl⟩ := List.mem_map.mp hq
    rcases pp.2.2.1 with e | e
    · rw [e] at hl
      cases hl
    · exact lfA_W e hl pp.1
  · unfold asQ
    rw [List.length_append, List.length_append, List.length_append, List.length_map]
    omega
/-- nothing is asked -/
theorem tk_nil (h : SkR C W a0 σ) (hx : W.2.2.2[j]? = some x) (e : (asQ (blW W.1) k x.1.2.2.2.1 x.1.2.2.2.2.1).length = 0) (pl : Nat) (hp : pl ≤ 3) (v : Nat → Int) : tkM pl x.1.2.2.2.1 (blW W.1) k x.1.2.2.2.2.1 v = true := by
  obtain ⟨hj, mt, wf⟩ := h.at hx
  obtain ⟨t1, t2, t3, t4, t5⟩ := mt.2.2.2.2.1
  have w8 : x.1.2.2.2.2.1 ≠ .nil → 1 ≤ lfN x.1.2.2.2.2.1 := by
    obtain ⟨k0, w1, w2, w3, w4, w5, w6, w7, ⟨w8, w9, w10, w11⟩, -⟩ := wf
    exact w10
  unfold asQ at e
  rw [List.length_append, List.length_append, List.length_append, List.length_map] at e
  have no : ∀ p, p < 3 → hsI x.1.2.2.2.1 p = false := fun p hp => by
    have : (eqA x.1.2.2.2.1 p).length = 0 := by
      have : p = 0 ∨ p = 1 ∨ p = 2 := by omega
      rcases this with rfl | rfl | rfl <;> omega
    rw [eqA_len] at this
    by_cases hh : hsI x.1.2.2.2.1 p = true
    · rw [if_pos hh] at this
      cases this
    · exact Bool.eq_false_iff.mpr hh
  have en : x.1.2.2.2.2.1 = .nil := Classical.byContradiction fun q => by
    have := w8 q
    omega
  unfold tkM
  rw [en, Bool.and_eq_true_iff, List.all_eq_true]
  refine ⟨fun i hi => ?_, rfl⟩
  rw [no i (by have := List.mem_range.mp hi; omega)]
  rfl
theorem akI_0 {pl : Nat} {bl : Nat → Nat → Bool} {X Y : List Spc × Ast} (h : ∀ v, tkM pl X.1 bl k X.2 v = true) (g : ∀ v, tkM pl Y.1 bl k Y.2 v = true) : akI pl bl k X Y = 0 := by
  unfold akI alP
  simp only [h, g, Bool.true_eq_false, and_false, false_and, exists_const]
  rfl
/-- is-tests settle it -/
theorem ak_set (h : SkR C W a0 σ) (hx : W.2.2.2[j]? = some x) (hx' : W.2.2.2[j']? = some x') (hc : x.1.1 = x'.1.1) (e1 : itM W k' (j + 1) = itM W k (j + 1)) (e2 : itM W k' (j' + 1) = itM W k (j' + 1)) : akN W (j + 1) (j' + 1) k' = akN W (j + 1) (j' + 1) k := by
  have p1 := h.plx hx
  have p2 := h.plx hx'
  rw [← hc] at p2
  have lv : ∀ {j : Nat} {x : Mtd × Bool}, W.2.2.2[j]? = some x → itM W k' (j + 1) = itM W k (j + 1) → ∀ l ∈ lvT x.1.2.2.2.2.1, itB (blW W.1) k' l = itB (blW W.1) k l := fun {j x} hx e l hl => by
    unfold itM at e
    rw [(spM_at hx).2.1] at e
    obtain ⟨i, hi⟩ := List.mem_iff_getElem?.mp hl
    exact itF_inj _ _ e i l (List.getElem?_eq_some_iff.mp hi).1 hi
  unfold akN
  rw [(spM_at hx).1, (spM_at hx).2.1, (spM_at hx).2.2, (spM_at hx').1, (spM_at hx').2.1]
  exact ak_cgk (tk_cgk p1.2.2.1 (lv hx e1)) (tk_cgk p2.2.2.1 (lv hx' e2))
theorem akN_r (W : Wld) (m n : Nat) (k : Nat → Nat) : -1 ≤ akN W m n k ∧ akN W m n k ≤ 1 := akI_r ..
theorem NcS.keep (h : NcS W σ) (g : τ.i 47 = σ.i 47) : NcS W τ := fun s hs => by
  rw [g]
  exact h s hs
theorem NhF.tr (h : NhF σ τ) (g : NhF τ υ) : NhF σ υ := XF.tr h g
theorem cl_whoAsks (h : SkR C W a0 σ) (ne : NeS W σ) (ka : KaS W kA pl k σ) (hk : kA < 47 ∨ 55 < kA) (hx : W.2.2.2[j]? = some x) (hx' : W.2.2.2[j']? = some x') (hc : x.1.1 = x'.1.1) (hpl : plW W.2.1 x.1.1.toNat = pl) (kk : ∀ τ, NhF σ τ → NeS W τ → K (.inl (some (.int (Int32.ofInt (akN W (j + 1) (j' + 1) k))))) τ) : C_X6_whoAsksMore_0 Z (d + 3) σ (Int32.ofNat (j + 1)) (Int32.ofNat (j' + 1)) kA K := by
  have hpl' : plW W.2.1 x'.1.1.toNat = pl := by rw [← hc]; exact hpl
  have hj := (h.at hx).1
  have hj' := (h.at hx').1
  obtain ⟨aw, al⟩ := asQ_W (k := k) h hx
  obtain ⟨aw', al'⟩ := asQ_W (k := k) h hx'
  have p3 := (h.plx hx).1
  rw [hpl] at p3
  have sA : SpA 48 := Or.inl rfl
  have t6 := itM_lt (k := k) h hx
  have u6 := itM_lt (k := k) h hx'
  have ekN : akN W (j + 1) (j' + 1) k = akI pl (blW W.1) k (x.1.2.2.2.1, x.1.2.2.2.2.1) (x'.1.2.2.2.1, x'.1.2.2.2.2.1) := by
    unfold akN
    rw [(spM_at hx).1, (spM_at hx).2.1, (spM_at hx).2.2, (spM_at hx').1, (spM_at hx').2.1, hpl]
  refine T_X6_whoAsksMore_0 h.1 (cl_asked (k := k) h hx (cl_asked (k := k) h hx' ?_))
  show (¬ Int32.ofNat _ + Int32.ofNat _ = 0 → _) ∧ (Int32.ofNat _ + Int32.ofNat _ = 0 → _)
  rw [oN_add, show Int32.ofNat ((asQ (blW W.1) k x.1.2.2.2.1 x.1.2.2.2.2.1).length + (asQ (blW W.1) k x'.1.2.2.2.1 x'.1.2.2.2.2.1).length) = 0 ↔ (asQ (blW W.1) k x.1.2.2.2.1 x.1.2.2.2.2.1).length + (asQ (blW W.1) k x'.1.2.2.2.1 x'.1.2.2.2.2.1).length = 0 from oN_eq (b := 0) (by omega) (by decide)]
  refine ⟨fun _ => ?_, fun z => ?_⟩
  · refine cl_isTests hx hpl h ka (cl_isTests hx' hpl' h ka ?_)
    have ky : (((((Int32.ofNat (j + 1) <<< ((7 : Int32) &&& 31)) ||| Int32.ofNat (j' + 1)) <<< ((6 : Int32) &&& 31)) ||| Int32.ofNat (itM W k (j + 1))) <<< ((6 : Int32) &&& 31)) ||| Int32.ofNat (itM W k (j' + 1)) = Int32.ofNat (kyW W (j + 1) (j' + 1) k) := by
      rw [show (Int32.ofNat (j + 1) <<< ((7 : Int32) &&& 31)) ||| Int32.ofNat (j' + 1) = Int32.ofNat ((j + 1) * 2 ^ 7 + (j' + 1)) from sh_or (s := 7) (by decide) (by omega) (by omega)]
      rw [show (Int32.ofNat ((j + 1) * 2 ^ 7 + (j' + 1)) <<< ((6 : Int32) &&& 31)) ||| Int32.ofNat (itM W k (j + 1)) = Int32.ofNat (((j + 1) * 2 ^ 7 + (j' + 1)) * 2 ^ 6 + itM W k (j + 1)) from sh_or (s := 6) (by decide) (by omega) (by omega)]
      exact sh_or (s := 6) (by decide) (by omega) (by omega)
    have kb : kyW W (j + 1) (j' + 1) k < 67108864 ∧ 524288 ≤ kyW W (j + 1) (j' + 1) k := by
      unfold kyW
      omega
    dsimp only [yI]
    rw [ky]
    obtain ⟨s, hs, es⟩ := an_1023 ((Int32.ofNat (kyW W (j + 1) (j' + 1) k) ^^^ ((Int32.toUInt32 (Int32.ofNat (kyW W (j + 1) (j' + 1) k)) >>> (Int32.toUInt32 (9 : Int32) &&& Int32.toUInt32 31)).toInt32)) ^^^ ((Int32.toUInt32 (Int32.ofNat (kyW W (j + 1) (j' + 1) k)) >>> (Int32.toUInt32 (17 : Int32) &&& Int32.toUInt32 31)).toInt32))
    rw [es, oN_t (by omega)]
    refine ⟨ib_oN hs (by decide), fun _ => ?_, fun hit => ⟨ib_oN hs (by decide), ?_⟩⟩
    · refine cl_empty9 sA h.1 (fun τ1 f1 S1 => ?_)
      have h1 := h.xf (sA.xf f1) (fun a q => q)
      have g1 : NhF σ τ1 := f1.1.mono (fun a q => by omega)
      refine cl_cutBy (as := []) sA (by omega) hx hpl h1 (ka.xf f1.1 (by omega)) S1 (by rw [List.length_nil]; omega) (fun τ2 f2 S2 => ?_)
      have f02 := f1.tr f2
      have h2 := h.xf (sA.xf f02) (fun a q => q)
      rw [List.nil_append] at S2
      refine cl_cutBy sA (by omega) hx' hpl' h2 (ka.xf f02.1 (by omega)) S2 (by omega) (fun τ3 f3 S3 => ?_)
      have f03 := f02.tr f3
      have h3 := h.xf (sA.xf f03) (fun a q => q)
      refine cl_begin9 sA h3.1 S3 (ne.1.ac f03) (fun τ4 f4 Q4 => ?_)
      have h4 : SkR C W a0 τ4 := h3.xf (f4.1.mono (E' := fun a => 46 ≤ a ∧ a ≤ 101) (fun a q => by omega)) (fun a q => q)
      have AW : AkW (asQ (blW W.1) k x.1.2.2.2.1 x.1.2.2.2.2.1 ++ asQ (blW W.1) k x'.1.2.2.2.1 x'.1.2.2.2.2.1) := fun q hq => (List.mem_append.mp hq).elim (aw q) (aw' q)
      have cov : ∀ f g : (Nat → Int) → Bool, FdI f g (fun _ => True) false := fun f g => ⟨fun z => (by cases z), fun _ v _ hn => absurd trivial hn⟩
      refine wa_147 AW hx hx' hpl hpl' rfl rfl rfl rfl τ4 (fun τ a b f5 ea eb => ?_) 1000000 0 false false (fun _ => True) τ4 (by omega) h4 (NxF.refl _ _) (S3.nx f4) Q4 SnC.zero (cov _ _) (cov _ _)
      have g5 : NhF σ τ := (f03.1.mono (fun a q => by omega)).tr ((f4.tr f5).1.mono (fun a q => by omega))
      have F5 : FX ΦC τ.sh τ.r := g5.fx h.1
      have e47 : τ.i 47 = σ.i 47 := ((f4.tr f5).1.2.2 47 (by omega)).1.trans (f03.1.2.2 47 (by omega)).1
      have r0 : Rw0 48 τ := (ne.1.ac f03).nx (f4.tr f5)
      have g2 : ∀ r : Int, r = akN W (j + 1) (j' + 1) k → C_X6_whoAsksMore_269 Z (d + 3) τ (Int32.ofNat (kyW W (j + 1) (j' + 1) k)) (Int32.ofNat s) (Int32.ofInt r) K := fun r er => by
        have rr := akN_r W (j + 1) (j' + 1) k
        rw [← er] at rr
        have e1 : Int32.ofInt r + 1 = Int32.ofNat (r + 1).toNat := by
          have : r = -1 ∨ r = 0 ∨ r = 1 := by omega
          rcases this with rfl | rfl | rfl <;> rfl
        refine T_X6_whoAsksMore_269 F5 ?_
        rw [e1, show (Int32.ofNat (kyW W (j + 1) (j' + 1) k) <<< ((2 : Int32) &&& 31)) ||| Int32.ofNat (r + 1).toNat = Int32.ofNat (kyW W (j + 1) (j' + 1) k * 2 ^ 2 + (r + 1).toNat) from sh_or (s := 2) (by decide) (by omega) (by omega), oN_t (by omega)]
        refine ⟨ib_oN hs (by decide), ?_⟩
        rw [er]
        refine kk _ (g5.wi (by omega)) ⟨r0, fun s' hs' => ?_⟩
        by_cases e : s' = s
        · subst e
          refine Or.inr ⟨j + 1, j' + 1, k, ⟨by omega, (List.getElem?_eq_some_iff.mp hx).1⟩, ⟨by omega, (List.getElem?_eq_some_iff.mp hx').1⟩, by rw [(spM_at hx).2.2, (spM_at hx').2.2, hc], fun p hp => (ka.2 p (by rw [(spM_at hx).2.2, hpl] at hp; exact hp)).2, ?_⟩
          rw [wi_at, Nat.mul_comm]
        · rw [wi_ne (by omega), e47]
          exact ne.2 s' hs'
      refine T_X6_whoAsksMore_248 F5 ?_
      have eq : akN W (j + 1) (j' + 1) k = if a = b then 0 else if a = true then 1 else -1 := by
        rw [ekN, ea, eb]
        rfl
      rw [i01]
      cases a <;> cases b
      · exact ⟨fun z => absurd rfl z, fun _ => g2 0 eq.symm⟩
      · exact ⟨fun _ => ⟨fun z => (by cases z), fun _ => g2 (-1) eq.symm⟩, fun z => absurd z (by decide)⟩
      · exact ⟨fun _ => ⟨fun _ => g2 1 eq.symm, fun z => absurd rfl z⟩, fun z => absurd z (by decide)⟩
      · exact ⟨fun z => absurd rfl z, fun _ => g2 0 eq.symm⟩
    · rcases ne.2 s hs with e0 | ⟨m, n, k1, ⟨m1, m2⟩, ⟨n1, n2⟩, mc, kv, ev⟩
      · rw [e0] at hit
        have h0 : (Int32.toUInt32 (0 : Int32) >>> (Int32.toUInt32 (2 : Int32) &&& Int32.toUInt32 31)).toInt32 = Int32.ofNat 0 := by decide
        rw [h0, oN_eq (by decide) (by omega)] at hit
        omega
      · obtain ⟨i, rfl⟩ : ∃ i, m = i + 1 := ⟨m - 1, by omega⟩
        obtain ⟨i', rfl⟩ : ∃ i', n = i' + 1 := ⟨n - 1, by omega⟩
        have hi : W.2.2.2[i]? = some _ := List.getElem?_eq_getElem (by omega)
        have hi' : W.2.2.2[i']? = some _ := List.getElem?_eq_getElem (by omega)
        have t7 := itM_lt (k := k1) h hi
        have u7 := itM_lt (k := k1) h hi'
        have ji := (h.at hi).1
        have ji' := (h.at hi').1
        have rr := akN_r W (i + 1) (i' + 1) k1
        have kb1 : kyW W (i + 1) (i' + 1) k1 < 67108864 := by
          unfold kyW
          omega
        rw [ev, ky_hi (by omega) (by omega), oN_eq (by omega) (by omega)] at hit
        rw [ev, ky_lo (by omega) (by omega)]
        unfold kyW at hit
        have q1 : i = j := by omega
        have q2 : i' = j' := by omega
        subst q1 q2
        have e := ak_set h hx hx' hc (k' := k1) (k := k) (by omega) (by omega)
        rw [e] at rr ⊢
        have : Int32.ofNat (akN W (i + 1) (i' + 1) k + 1).toNat - 1 = Int32.ofInt (akN W (i + 1) (i' + 1) k) := by
          generalize akN W (i + 1) (i' + 1) k = r at rr ⊢
          have : r = -1 ∨ r = 0 ∨ r = 1 := by omega
          rcases this with rfl | rfl | rfl <;> decide
        rw [this]
        exact kk σ (XF.refl _ _) ne
  · have e : akN W (j + 1) (j' + 1) k = 0 := by
      rw [ekN]
      exact akI_0 (tk_nil h hx (by omega) pl p3) (tk_nil h hx' (by omega) pl p3)
    have := kk σ (XF.refl _ _) ne
    rw [e] at this
    exact this
end NEAR3

/-! THE CLASS: more instructions of the machine -/
section INST2
variable {Z : zT} {d : Nat} {C V V' V2 : Nat × Nat × Nat × Nat} {W : Wld} {wy a0 ch U fuel : Nat} {f : Fc} {S : Es} {k P dp tn j nv hm : Nat} {lt : Int32} {on : List Nat} {stk vs args : List Int64} {σ τ υ : Sg} {K Kx : kS} {N : Nat → Prop} {op arg : Int32} {n m : Nat} {x y : Int64} {on0 : List Nat}
theorem po_store {i : Nat} (A : McA C W wy a0 ch U f fuel V S 0 P dp lt on (stk ++ [x]) tn (j + 1) σ) (hi : i ≤ 15) (kk : ∀ τ, XF mE σ τ → (∀ a, a ≠ 32 * dp + 16 + i → τ.l 94 a = σ.l 94 a) → τ.l 94 (32 * dp + 16 + i) = x → McA C W wy a0 ch U f fuel V S 0 P dp lt on stk (tn + 1) j τ → C_X4_perform_16 Z (d + 9) τ (Int32.ofNat fuel) (Int32.ofNat (tn + 1)) K) : PfO Z d K fuel tn 12 (Int32.ofNat i) σ := by
  have a6 := A.2.2.1.2.2.1
  obtain ⟨e1, e2, e3⟩ := fr_ix (dp := dp) (i := i) (by omega) hi
  refine PfO.ob ⟨by decide, by decide, by decide, by decide, by decide⟩ (T_X4_obey_0 A.fx ⟨fun _ => ?_, fun q => absurd q (by decide), fun q => absurd q (by decide), fun q => absurd q (by decide), fun q => absurd q (by decide), fun q => absurd q (by decide), fun q => absurd q (by decide), fun q => absurd q (by decide), fun q => absurd q (by decide), fun q => absurd rfl q⟩)
  refine cl_pop A.fx A.skS (fun τ g s _ => ?_)
  show ib _ _ ∧ _
  rw [a6.1, e1, e3]
  have A1 := A.sk g s
  have x1 : XF (fun a => a = 94 ∨ a = 95) τ (τ.wl 94 (32 * dp + 16 + i) x) := (XF.refl _ _).wl (Or.inl rfl)
  have A2 := A1.fr x1
  have e94 : τ.l 94 = σ.l 94 := (g.1.2.2 94 (by omega)).2
  refine ⟨e2, McA.end A2 (kk _ (g.xf.tr (x1.mono (fun a q => by unfold mE; omega))) (fun a q => ?_) wl_eq)⟩
  rw [wl_ne (by omega), e94]
theorem po_branch {p : Nat} (A : McA C W wy a0 ch U f fuel V S 0 P dp lt on (stk ++ [x]) tn (j + 1) σ)
    (kk : ∀ τ, XF mS σ τ → McA C W wy a0 ch U f fuel V S 0 (if nmV x = 0 then p else P) dp lt on stk (tn + 1) j τ → C_X4_perform_16 Z (d + 9) τ (Int32.ofNat fuel) (Int32.ofNat (tn + 1)) K) : PfO Z d K fuel tn 13 (Int32.ofNat p) σ := by
  refine PfO.ob ⟨by decide, by decide, by decide, by decide, by decide⟩ (T_X4_obey_0 A.fx ⟨fun q => absurd q (by decide), fun _ => ?_, fun q => absurd q (by decide), fun q => absurd q (by decide), fun q => absurd q (by decide), fun q => absurd q (by decide), fun q => absurd q (by decide), fun q => absurd q (by decide), fun q => absurd q (by decide), fun _ q => absurd rfl q⟩)
  refine cl_pop A.fx A.skS (fun τ g s _ => ?_)
  have A1 := A.sk g s
  refine ⟨fun q => ?_, fun q => ?_⟩
  · have q : ¬ nmV x = 0 := q
    rw [if_neg q] at kk
    refine McA.end (A1.go A1.2.2.1.1) (kk _ (g.ms.tr ((XF.refl _ _).wi (Or.inl rfl))))
  · have q : nmV x = 0 := q
    rw [if_pos q] at kk
    exact McA.end (A1.go rfl) (kk _ (g.ms.tr ((XF.refl _ _).wi (Or.inl rfl))))
theorem po_jump {p : Nat} (A : McA C W wy a0 ch U f fuel V S 0 P dp lt on stk tn (j + 1) σ)
    (kk : ∀ τ, XF mS σ τ → McA C W wy a0 ch U f fuel V S 0 p dp lt on stk (tn + 1) j τ → C_X4_perform_16 Z (d + 9) τ (Int32.ofNat fuel) (Int32.ofNat (tn + 1)) K) : PfO Z d K fuel tn 14 (Int32.ofNat p) σ := by
  refine PfO.ob ⟨by decide, by decide, by decide, by decide, by decide⟩ (T_X4_obey_0 A.fx ⟨fun q => absurd q (by decide), fun q => absurd q (by decide), fun _ => ?_, fun q => absurd q (by decide), fun q => absurd q (by decide), fun q => absurd q (by decide), fun q => absurd q (by decide), fun q => absurd q (by decide), fun q => absurd q (by decide), fun _ _ q => absurd rfl q⟩)
  exact McA.end (A.go rfl) (kk _ ((XF.refl _ _).wi (Or.inl rfl)))
theorem LyW.wo {l : Nat} (h : LyW W on) : LyW W (on.filter (· ≠ l)) := ⟨Nat.le_trans (List.length_filter_le ..) h.1, fun x hx => h.2.1 x (List.mem_filter.mp hx).1, h.2.2.sublist List.filter_sublist⟩
theorem LyW.w7 {l : Nat} (h : LyW W on) (h8 : W.2.2.1.length ≤ 8) (hl : l < W.2.2.1.length) : (on.filter (· ≠ l)).length ≤ 7 := by
  have nd : (l :: on.filter (· ≠ l)).Nodup := List.nodup_cons.mpr ⟨fun q => absurd rfl (of_decide_eq_true (List.mem_filter.mp q).2), h.2.2.sublist List.filter_sublist⟩
  have := on_len (on := l :: on.filter (· ≠ l)) (fun x hx => by
    rcases List.mem_cons.mp hx with rfl | q
    · omega
    · have := h.2.1 x (List.mem_filter.mp q).1
      omega) nd
  rw [List.length_cons] at this
  omega
theorem LyW.wi {l : Nat} (h : LyW W on) (h8 : W.2.2.1.length ≤ 8) (hl : l < W.2.2.1.length) : LyW W (on.filter (· ≠ l) ++ [l]) := by
  have h7 := h.w7 h8 hl
  refine ⟨by rw [List.length_append, List.length_singleton]; omega, fun x hx => ?_, List.nodup_append.mpr ⟨h.2.2.sublist List.filter_sublist, by simp, fun a ha b hb e => ?_⟩⟩
  · rcases List.mem_append.mp hx with q | q
    · exact h.2.1 x (List.mem_filter.mp q).1
    · rw [List.mem_singleton] at q
      omega
  · rw [List.mem_singleton] at hb
    have := of_decide_eq_true (List.mem_filter.mp ha).2
    exact this (e.trans hb)
theorem lyE_wi {l : Nat} (h : LyW W on) (h8 : W.2.2.1.length ≤ 8) (hl : l < W.2.2.1.length) : (lyE (on.filter (· ≠ l)) <<< (Int32.toInt64 (4 : Int32) &&& 63)) ||| Int32.toInt64 (Int32.ofNat l + 1) = lyE (on.filter (· ≠ l) ++ [l]) := by
  have h7 := h.w7 h8 hl
  have sm := enL_lt (on.filter (· ≠ l)).reverse (fun x hx => by
    have := h.2.1 x (List.mem_filter.mp (List.mem_reverse.mp hx)).1
    omega)
  have sb : enL (on.filter (· ≠ l)).reverse < 268435456 := Nat.lt_of_lt_of_le sm (Nat.le_trans (Nat.pow_le_pow_right (by decide) (by rw [List.length_reverse]; exact h7)) (by decide))
  unfold lyE
  rw [oN_1, oN_64 (by omega), i64_or4 sb (by omega), List.reverse_append]
  rfl
theorem McA.ly8 (A : McA C W wy a0 ch U f fuel V S k P dp lt on stk tn j σ) : W.2.2.1.length ≤ 8 := by
  obtain ⟨⟨⟨u, h, -⟩, -⟩, -⟩ := A
  exact h.1.2.2.2.2.2.1
theorem po_with {l : Nat} (A : McA C W wy a0 ch U f fuel V S 0 P dp lt on stk tn (j + 1) σ) (hs : stk.length < 2048) (hl : l < W.2.2.1.length)
    (kk : ∀ τ, XF mS σ τ → McA C W wy a0 ch U f fuel V S 0 P dp lt (on.filter (· ≠ l) ++ [l]) (stk ++ [lyE on]) (tn + 1) j τ → C_X4_perform_16 Z (d + 9) τ (Int32.ofNat fuel) (Int32.ofNat (tn + 1)) K) : PfO Z d K fuel tn 15 (Int32.ofNat l) σ := by
  have h8 := A.ly8
  obtain ⟨-, -, ⟨-, -, -, -, -, -, a10, al, -⟩, -⟩ := id A
  refine PfO.ob ⟨by decide, by decide, by decide, by decide, by decide⟩ (T_X4_obey_0 A.fx ⟨fun q => absurd q (by decide), fun q => absurd q (by decide), fun q => absurd q (by decide), fun _ => ?_, fun q => absurd q (by decide), fun q => absurd q (by decide), fun q => absurd q (by decide), fun q => absurd q (by decide), fun q => absurd q (by decide), fun _ _ _ q => absurd rfl q⟩)
  rw [a10]
  refine cl_push A.fx A.skS hs (fun τ g s _ => ?_)
  have A1 := A.sk g s
  have b10 := A1.2.2.1.2.2.2.2.2.2.1
  show C_X4_without_0 Z _ τ (τ.l 83 10) _ _
  rw [b10]
  refine cl_without A1.fx h8 al (by omega) ?_
  exact McA.end (A1.ly (lyE_wi al h8 hl) (al.wi h8 hl)) (kk _ (g.ms.tr ((XF.refl _ _).wl (Or.inl rfl))))
theorem po_without {l : Nat} (A : McA C W wy a0 ch U f fuel V S 0 P dp lt on stk tn (j + 1) σ) (hs : stk.length < 2048) (hl : l < W.2.2.1.length)
    (kk : ∀ τ, XF mS σ τ → McA C W wy a0 ch U f fuel V S 0 P dp lt (on.filter (· ≠ l)) (stk ++ [lyE on]) (tn + 1) j τ → C_X4_perform_16 Z (d + 9) τ (Int32.ofNat fuel) (Int32.ofNat (tn + 1)) K) : PfO Z d K fuel tn 16 (Int32.ofNat l) σ := by
  have h8 := A.ly8
  obtain ⟨-, -, ⟨-, -, -, -, -, -, a10, al, -⟩, -⟩ := id A
  refine PfO.ob ⟨by decide, by decide, by decide, by decide, by decide⟩ (T_X4_obey_0 A.fx ⟨fun q => absurd q (by decide), fun q => absurd q (by decide), fun q => absurd q (by decide), fun q => absurd q (by decide), fun _ => ?_, fun q => absurd q (by decide), fun q => absurd q (by decide), fun q => absurd q (by decide), fun q => absurd q (by decide), fun _ _ _ _ q => absurd rfl q⟩)
  rw [a10]
  refine cl_push A.fx A.skS hs (fun τ g s _ => ?_)
  have A1 := A.sk g s
  have b10 := A1.2.2.1.2.2.2.2.2.2.1
  show C_X4_without_0 Z _ τ (τ.l 83 10) _ _
  rw [b10]
  refine cl_without A1.fx h8 al (by omega) ?_
  exact McA.end (A1.ly rfl al.wo) (kk _ (g.ms.tr ((XF.refl _ _).wl (Or.inl rfl))))
theorem po_back (A : McA C W wy a0 ch U f fuel V S 0 P dp lt on (stk ++ [lyE on0, x]) tn (j + 1) σ) (h0 : LyW W on0)
    (kk : ∀ τ, XF mS σ τ → McA C W wy a0 ch U f fuel V S 0 P dp lt on0 (stk ++ [x]) (tn + 1) j τ → C_X4_perform_16 Z (d + 9) τ (Int32.ofNat fuel) (Int32.ofNat (tn + 1)) K) : PfO Z d K fuel tn 17 arg σ := by
  have hs := A.skS
  rw [show stk ++ [lyE on0, x] = (stk ++ [lyE on0]) ++ [x] by rw [List.append_assoc]; rfl] at hs
  have hl : stk.length < 2048 := by
    have := A.skS.1.2
    rw [List.length_append, List.length_cons, List.length_singleton] at this
    omega
  refine PfO.ob ⟨by decide, by decide, by decide, by decide, by decide⟩ (T_X4_obey_0 A.fx ⟨fun q => absurd q (by decide), fun q => absurd q (by decide), fun q => absurd q (by decide), fun q => absurd q (by decide), fun q => absurd q (by decide), fun _ => ?_, fun q => absurd q (by decide), fun q => absurd q (by decide), fun q => absurd q (by decide), fun _ _ _ _ _ q => absurd rfl q⟩)
  refine cl_pop A.fx hs (fun τ g s _ => cl_pop (g.1.fx A.fx) s (fun τ2 g2 s2 _ => ?_))
  have A2 := (A.sk (g.tr g2) s2).ly (on' := on0) rfl h0
  exact pf_push A2 hl (fun _ w => w) (fun υ g3 A3 => kk υ (((g.tr g2).ms.tr ((XF.refl _ _).wl (Or.inl rfl))).tr g3) A3)
/-- the last try is another -/
theorem McA.ltr {lt' x' : Int32} (A : McA C W wy a0 ch U f fuel V S k P dp lt on stk tn j σ) (hx : x' = lt') : McA C W wy a0 ch U f fuel V S k P dp lt' on stk tn j (σ.wi 83 8 x') := by
  obtain ⟨-, -, ⟨a3, a4, ⟨a5, a5'⟩, a7, a8, a9, b1, b2, b3⟩, -⟩ := id A
  refine A.mv ((XF.refl _ _).wi (Or.inl rfl)) (wi_ne (by decide)) (wi_ne (by decide)) (wi_row (by decide)) (wi_row (by decide)) ((wi_ne (by decide)).trans a3) (wi_ne (by decide)) ((wi_ne (by decide)).trans a5) a5' (by rw [wi_at, hx]) ((wi_ne (by decide)).trans a8) ((wi_ne (by decide)).trans a9) b1 b2 ?_
  exact ⟨⟨(wi_ne (by decide)).trans b3.1.1, b3.1.2⟩, b3.2⟩
theorem po_try (A : McA C W wy a0 ch U f fuel V S 0 P dp lt on stk tn (j + 1) σ) (hs : stk.length + 4 ≤ 2048)
    (kk : ∀ τ, XF mS σ τ → McA C W wy a0 ch U f fuel V S 0 P dp (Int32.ofNat stk.length) on (stk ++ [lyE on, Int32.toInt64 (Int32.ofNat dp), Int32.toInt64 arg, Int32.toInt64 lt]) (tn + 1) j τ → C_X4_perform_16 Z (d + 9) τ (Int32.ofNat fuel) (Int32.ofNat (tn + 1)) K) : PfO Z d K fuel tn 18 arg σ := by
  obtain ⟨-, -, ⟨-, -, -, -, -, -, a10, al, -⟩, -⟩ := id A
  refine PfO.ob ⟨by decide, by decide, by decide, by decide, by decide⟩ (T_X4_obey_0 A.fx ⟨fun q => absurd q (by decide), fun q => absurd q (by decide), fun q => absurd q (by decide), fun q => absurd q (by decide), fun q => absurd q (by decide), fun q => absurd q (by decide), fun _ => T_X4_beginTry_0 A.fx ?_, fun q => absurd q (by decide), fun q => absurd q (by decide), fun _ _ _ _ _ _ q => absurd rfl q⟩)
  rw [a10, A.skS.1.1]
  refine cl_push A.fx A.skS (by omega) (fun τ1 g1 s1 _ => ?_)
  have A1 := A.sk g1 s1
  show C_X4_push_0 Z _ τ1 (Int32.toInt64 (τ1.i 83 6)) _
  rw [A1.2.2.1.2.2.1.1]
  refine cl_push A1.fx s1 (by rw [List.length_append]; show stk.length + 1 < _; omega) (fun τ2 g2 s2 _ => ?_)
  have A2 := A1.sk g2 s2
  refine cl_push A2.fx s2 (by rw [List.length_append, List.length_append]; show stk.length + 1 + 1 < _; omega) (fun τ3 g3 s3 _ => ?_)
  have A3 := A2.sk g3 s3
  show C_X4_push_0 Z _ τ3 (Int32.toInt64 (τ3.i 83 8)) _
  rw [A3.2.2.1.2.2.2.1]
  refine cl_push A3.fx s3 (by rw [List.length_append, List.length_append, List.length_append]; show stk.length + 1 + 1 + 1 < _; omega) (fun τ4 g4 s4 _ => ?_)
  have A4 := (A3.sk g4 s4).ltr (lt' := Int32.ofNat stk.length) rfl
  refine McA.end A4 (fun A5 => kk _ ((((g1.tr g2).tr g3).tr g4).ms.tr ((XF.refl _ _).wi (Or.inl rfl))) ?_)
  rw [show stk ++ [lyE on, Int32.toInt64 (Int32.ofNat dp), Int32.toInt64 arg, Int32.toInt64 lt] = stk ++ [lyE on] ++ [Int32.toInt64 (Int32.ofNat dp)] ++ [Int32.toInt64 arg] ++ [Int32.toInt64 lt] by simp]
  exact A5
theorem i32_64 (z : Int32) : Int64.toInt32 (Int32.toInt64 z) = z := by simp
theorem po_tried {a b c : Int64} {p : Nat} {lt' : Int32} (A : McA C W wy a0 ch U f fuel V S 0 P dp lt on (stk ++ [a, b, c, Int32.toInt64 lt', x]) tn (j + 1) σ)
    (kk : ∀ τ, XF mS σ τ → McA C W wy a0 ch U f fuel V S 0 p dp lt' on (stk ++ [x]) (tn + 1) j τ → C_X4_perform_16 Z (d + 9) τ (Int32.ofNat fuel) (Int32.ofNat (tn + 1)) K) : PfO Z d K fuel tn 19 (Int32.ofNat p) σ := by
  have hs := A.skS
  rw [show stk ++ [a, b, c, Int32.toInt64 lt', x] = (stk ++ [a, b, c]) ++ [Int32.toInt64 lt'] ++ [x] by simp] at hs
  have hl : stk.length + 5 ≤ 2048 := by
    have := A.skS.1.2
    rw [List.length_append] at this
    exact this
  refine PfO.ob ⟨by decide, by decide, by decide, by decide, by decide⟩ (T_X4_obey_0 A.fx ⟨fun q => absurd q (by decide), fun q => absurd q (by decide), fun q => absurd q (by decide), fun q => absurd q (by decide), fun q => absurd q (by decide), fun q => absurd q (by decide), fun q => absurd q (by decide), fun _ => T_X4_endTry_0 A.fx ?_, fun q => absurd q (by decide), fun _ _ _ _ _ _ _ q => absurd rfl q⟩)
  refine cl_pop A.fx hs (fun τ g s _ => cl_pop (g.1.fx A.fx) s (fun τ2 g2 s2 _ => ?_))
  show C_X4_push_0 Z _ ((τ2.wi 83 8 (Int64.toInt32 (Int32.toInt64 lt'))).wi 83 5 (τ2.i 83 5 - 3)) x _
  have A2 := (A.sk (g.tr g2) s2).ltr (lt' := lt') (i32_64 lt')
  have e5 : τ2.i 83 5 - 3 = Int32.ofNat stk.length := by
    rw [s2.1.1, List.length_append, show (3 : Int32) = Int32.ofNat 3 from rfl]
    show Int32.ofNat (stk.length + 3) - _ = _
    rw [oN_sub (by omega), Nat.add_sub_cancel]
  rw [e5]
  have g5 : SkM (τ2.wi 83 8 (Int64.toInt32 (Int32.toInt64 lt'))) ((τ2.wi 83 8 (Int64.toInt32 (Int32.toInt64 lt'))).wi 83 5 (Int32.ofNat stk.length)) := ⟨(XF.refl _ _).wi (Or.inl rfl), fun j q => wi_ne (by omega), rfl⟩
  have A3 := A2.sk (stk' := stk) g5 ⟨⟨wi_at .., by omega⟩, fun i y hy => s2.2 i y (by rw [List.getElem?_append_left (List.getElem?_eq_some_iff.mp hy).1]; exact hy)⟩
  have G : XF mS σ ((τ2.wi 83 8 (Int64.toInt32 (Int32.toInt64 lt'))).wi 83 5 (Int32.ofNat stk.length)) := ((g.tr g2).ms.tr ((XF.refl _ _).wi (Or.inl rfl))).tr g5.ms
  refine cl_push A3.fx A3.skS (by omega) (fun τ4 g4 s4 _ => ?_)
  have A4 := (A3.sk g4 s4).go (P' := p) rfl
  exact McA.end A4 (kk _ ((G.tr g4.ms).tr ((XF.refl _ _).wi (Or.inl rfl))))
theorem pf_done {l4 : Int32} (F : FX ΦC σ.sh σ.r) (h : 0 ≤ σ.i 83 11) (k : K (.inl none) σ) : C_X4_perform_16 Z (d + 9) σ (Int32.ofNat fuel) l4 K := T_X4_perform_16 F ⟨fun _ => k, fun _ => ⟨fun _ => k, fun z => absurd h z⟩⟩
theorem po_show (A : McA C W wy a0 ch U f fuel V S 0 P dp lt on (stk ++ [x]) tn (j + 1) σ)
    (kf : S.2.2.1.length = 512 → ∀ τ, XF mS σ τ → MbS C W wy a0 ch U f V τ → MeS S τ → (τ.i 83 14 = Int32.ofNat S.1 ∧ τ.i 83 11 = 5 ∧ τ.i 83 12 = 0) → K (.inl none) τ)
    (kk : ¬ S.2.2.1.length = 512 → ∀ τ, XF mS σ τ → McA C W wy a0 ch U f fuel V (S.1, S.2.1, S.2.2.1 ++ [nmV x], S.2.2.2) 0 P dp lt on (stk ++ [x]) (tn + 1) j τ → C_X4_perform_16 Z (d + 9) τ (Int32.ofNat fuel) (Int32.ofNat (tn + 1)) K) : PfO Z d K fuel tn 21 arg σ := by
  obtain ⟨a1, a2, ⟨a7, ⟨s, a14, as⟩, ⟨a6, a6'⟩, a8, a9, a11, a10, al, ast⟩, ⟨af, af'⟩, at1, at2⟩ := id A
  obtain ⟨m1, ⟨m2, m3, m4⟩, m5, m6, m7⟩ := id a2
  have hl : stk.length < 2048 := by
    have := ast.1.2
    rw [List.length_append, List.length_singleton] at this
    omega
  refine PfO.ob ⟨by decide, by decide, by decide, by decide, by decide⟩ (T_X4_obey_0 A.fx ⟨fun q => absurd q (by decide), fun q => absurd q (by decide), fun q => absurd q (by decide), fun q => absurd q (by decide), fun q => absurd q (by decide), fun q => absurd q (by decide), fun q => absurd q (by decide), fun q => absurd q (by decide), fun _ => T_X4_showTop_0 A.fx ?_, fun _ _ _ _ _ _ _ _ q => absurd rfl q⟩)
  rw [m2, show Int32.ofNat S.2.2.1.length < 512 ↔ S.2.2.1.length < 512 from oN_lt (b := 512) (by omega) (by decide)]
  refine ⟨fun q => cl_pop A.fx ast (fun τ g s' _ => ?_), fun q => T_X4_finish_0 A.fx ⟨⟨by first | rfl | decide, by first | rfl | decide⟩, ?_⟩⟩
  · have A1 := A.sk g s'
    have e16 : τ.i 83 16 = Int32.ofNat S.2.2.1.length := (g.2.1 16 (by decide)).trans m2
    show ib (τ.i 83 16) 512 ∧ C_X4_push_0 Z _ ((τ.wi 96 (τ.i 83 16).toNatClampNeg (nmV x)).wi 83 16 (τ.i 83 16 + 1)) x _
    rw [e16, oN_t (by omega), oN_1]
    obtain ⟨υ, hυ⟩ : ∃ y, y = ((τ.wi 96 S.2.2.1.length (nmV x)).wi 83 16 (Int32.ofNat (S.2.2.1.length + 1))) := ⟨_, rfl⟩
    have x1 : XF mS τ υ := by
      rw [hυ]
      exact ((XF.refl _ _).wi (Or.inr (Or.inr rfl))).wi (Or.inl rfl)
    have ei : ∀ k, k ≠ 16 → υ.i 83 k = τ.i 83 k := fun k hk => by
      rw [hυ, wi_ne (by omega), wi_ne (by omega)]
    have el : υ.l = τ.l := by rw [hυ]; rfl
    have e96 : ∀ k, k ≠ S.2.2.1.length → υ.i 96 k = τ.i 96 k := fun k hk => by
      rw [hυ, wi_ne (by omega), wi_ne (by omega)]
    obtain ⟨c1, c2, ⟨c7, ⟨s1, c14, cs⟩, ⟨c6, c6'⟩, c8, c9, c11, c10, cl, cst⟩, ⟨cf, cf'⟩, ct1, ct2⟩ := id A1
    obtain ⟨p1, ⟨p2, p3, p4⟩, p5, p6, p7⟩ := id c2
    have A2 : McA C W wy a0 ch U f fuel V (S.1, S.2.1, S.2.2.1 ++ [nmV x], S.2.2.2) 0 P dp lt on stk tn (j + 1) υ := by
      refine ⟨c1.xf (x1.mono (fun a q => by unfold mS at q; unfold mE; omega)), ⟨?_, ⟨?_, ?_, fun i y hy => ?_⟩, (ei 18 (by decide)).trans p5, p6, fun i y hy => ?_⟩, ⟨(ei 7 (by decide)).trans c7, ⟨s1, (ei 14 (by decide)).trans c14, cs⟩, ⟨(ei 6 (by decide)).trans c6, c6'⟩, (ei 8 (by decide)).trans c8, (ei 9 (by decide)).trans c9, (ei 11 (by decide)).trans c11, by rw [el]; exact c10, cl, ?_⟩, ⟨cf, cf'⟩, ct1, ct2⟩
      · rw [(x1.2.2 84 (fun q => by unfold mS at q; omega)).1]
        exact p1
      · show υ.i 83 16 = Int32.ofNat (S.2.2.1 ++ [nmV x]).length
        rw [hυ, wi_at, List.length_append]
        rfl
      · show (S.2.2.1 ++ [nmV x]).length ≤ 512
        rw [List.length_append, List.length_singleton]
        omega
      · have hy : (S.2.2.1 ++ [nmV x])[i]? = some y := hy
        by_cases z : i < S.2.2.1.length
        · rw [List.getElem?_append_left z] at hy
          rw [e96 i (by omega)]
          exact p4 i y hy
        · rw [List.getElem?_append_right (by omega)] at hy
          have il := (List.getElem?_eq_some_iff.mp hy).1
          rw [List.length_singleton] at il
          have ie : i = S.2.2.1.length := by omega
          subst ie
          rw [Nat.sub_self] at hy
          cases hy
          rw [hυ, wi_ne (by omega), wi_at]
      · rw [(x1.2.2 97 (fun q => by unfold mS at q; omega)).1]
        exact p7 i y hy
      · unfold StkS
        rw [ei 5 (by decide), el]
        exact cst
    rw [← hυ]
    exact ⟨ib_oN (by omega) (by decide), pf_push A2 hl (fun _ w => w) (fun υ2 g3 A3 => kk (by omega) υ2 ((g.ms.tr x1).tr g3) A3)⟩
  · obtain ⟨υ, hυ⟩ : ∃ y, y = (((σ.wi 83 11 (5 : Int32)).wi 83 12 0).wl 83 13 0) := ⟨_, rfl⟩
    have x1 : XF mS σ υ := by
      rw [hυ]
      exact ((((XF.refl _ _).wi (Or.inl rfl)).wi (Or.inl rfl)).wl (Or.inl rfl))
    have ei : ∀ k, υ.i 83 k = if k = 12 then 0 else if k = 11 then 5 else σ.i 83 k := fun k => by
      rw [hυ]
      show (Sg.wi (Sg.wi σ 83 11 5) 83 12 0).i 83 k = _
      simp only [wi_i, true_and]
    have r : ∀ a, a ≠ 83 → υ.i a = σ.i a := fun a ha => by
      rw [hυ]
      show (Sg.wi (Sg.wi σ 83 11 5) 83 12 0).i a = _
      rw [wi_row ha, wi_row ha]
    show C_X4_perform_257 Z (d + 9) (((σ.wi 83 11 (5 : Int32)).wi 83 12 0).wl 83 13 0) (Int32.ofNat fuel) (Int32.ofNat tn) K
    rw [← hυ]
    refine pf_257 (x1.fx A.fx) ((ei 9).trans a9) (pf_done (x1.fx A.fx) (by rw [ei 11, if_neg (by decide), if_pos rfl]; decide) ?_)
    exact kf (by omega) υ x1 (a1.xf (x1.mono (fun a q => by unfold mS at q; unfold mE; omega))) (a2.keep (by rw [r 84 (by decide)]) (ei 16) (ei 18) (r 96 (by decide)) (r 97 (by decide))) ⟨(ei 14).trans (by rw [if_neg (by decide), if_neg (by decide), a14, show s = S.1 by omega]), ei 11, ei 12⟩
/-- a failure is caught -/
theorem fw_try {e P' : Nat} {lt' : Int32} {stk : List Int64} (B : MbS C W wy a0 ch U f V τ) (M : MeS S τ) (h14 : τ.i 83 14 = Int32.ofNat S.1) (h8 : τ.i 83 8 = Int32.ofNat stk.length) (h11 : τ.i 83 11 = -1) (hs : ∀ (i : Nat) y, (stk ++ [lyE on, Int32.toInt64 (Int32.ofNat dp), Int32.toInt64 (Int32.ofNat P'), Int32.toInt64 lt'])[i]? = some y → τ.l 93 i = y) (hl : stk.length + 4 ≤ 2048) (ho : LyW W on) (hd : dp ≤ 24) (hf : S.1 ≤ fuel ∧ fuel ≤ 100000 ∧ S.2.2.2.1 ≤ tn ∧ tn + j ≤ 3 * S.1)
    (kk : ∀ υ, XF mS τ υ → McA C W wy a0 ch U f fuel V S 0 P' dp lt' on (stk ++ [x]) tn j υ → Kx (.inl none) υ) : C_X4_failWith_0 Z (e + 2) τ x Kx := by
  have g : ∀ i, (stk ++ [lyE on, Int32.toInt64 (Int32.ofNat dp), Int32.toInt64 (Int32.ofNat P'), Int32.toInt64 lt'])[stk.length + i]? = [lyE on, Int32.toInt64 (Int32.ofNat dp), Int32.toInt64 (Int32.ofNat P'), Int32.toInt64 lt'][i]? := fun i => by
    rw [List.getElem?_append_right (by omega), Nat.add_sub_cancel_left]
  have s0 : τ.l 93 stk.length = lyE on := hs _ _ ((g 0).trans rfl)
  have s1 : τ.l 93 (stk.length + 1) = Int32.toInt64 (Int32.ofNat dp) := hs _ _ ((g 1).trans rfl)
  have s2 : τ.l 93 (stk.length + 2) = Int32.toInt64 (Int32.ofNat P') := hs _ _ ((g 2).trans rfl)
  have s3 : τ.l 93 (stk.length + 3) = Int32.toInt64 lt' := hs _ _ ((g 3).trans rfl)
  have ea : ∀ q : Nat, Int32.ofNat stk.length + Int32.ofNat q = Int32.ofNat (stk.length + q) := fun q => oN_add _ _
  refine T_X4_failWith_0 B.fx ?_
  rw [h8, show Int32.ofNat stk.length < 0 ↔ stk.length < 0 from oN_lt (b := 0) (by omega) (by decide), show (1 : Int32) = Int32.ofNat 1 from rfl, show (2 : Int32) = Int32.ofNat 2 from rfl, show (3 : Int32) = Int32.ofNat 3 from rfl, show (4 : Int32) = Int32.ofNat 4 from rfl, ea, ea, ea, ea, oN_t (by omega), oN_t (by omega), oN_t (by omega), oN_t (by omega), s0, s1, s2, s3, i32_64, i32_64, i32_64, show Int32.ofNat (stk.length + 4) ≤ 2048 ↔ stk.length + 4 ≤ 2048 from oN_le (b := 2048) (by omega) (by decide)]
  refine ⟨fun z => absurd z (by omega), fun _ => ⟨fun _ => ⟨ib_oN (by omega) (by decide), ib_oN (by omega) (by decide), ib_oN (by omega) (by decide), ib_oN (by omega) (by decide), ?_⟩, fun z => absurd hl z⟩⟩
  obtain ⟨υ, hυ⟩ : ∃ y, y = (((((τ.wi 83 9 (0 : Int32)).wi 83 5 (Int32.ofNat stk.length)).wl 83 10 (lyE on)).wi 83 6 (Int32.ofNat dp)).wi 83 7 (Int32.ofNat P')).wi 83 8 lt' := ⟨_, rfl⟩
  have x1 : XF mS τ υ := by
    rw [hυ]
    exact (((((((XF.refl _ _).wi (Or.inl rfl)).wi (Or.inl rfl)).wl (Or.inl rfl)).wi (Or.inl rfl)).wi (Or.inl rfl)).wi (Or.inl rfl))
  have ei : ∀ k, υ.i 83 k = if k = 8 then lt' else if k = 7 then Int32.ofNat P' else if k = 6 then Int32.ofNat dp else if k = 5 then Int32.ofNat stk.length else if k = 9 then 0 else τ.i 83 k := fun k => by
    rw [hυ]
    show (Sg.wi (Sg.wi (Sg.wi (Sg.wi (Sg.wi τ 83 9 0) 83 5 (Int32.ofNat stk.length)) 83 6 (Int32.ofNat dp)) 83 7 (Int32.ofNat P')) 83 8 lt').i 83 k = _
    simp only [wi_i, true_and]
  have r : ∀ a, a ≠ 83 → υ.i a = τ.i a := fun a ha => by
    rw [hυ]
    show (Sg.wi (Sg.wi (Sg.wi (Sg.wi (Sg.wi τ 83 9 0) 83 5 (Int32.ofNat stk.length)) 83 6 (Int32.ofNat dp)) 83 7 (Int32.ofNat P')) 83 8 lt').i a = _
    rw [wi_row ha, wi_row ha, wi_row ha, wi_row ha, wi_row ha]
  have el : ∀ a k, ¬ (a = 83 ∧ k = 10) → υ.l a k = τ.l a k := fun a k q => by
    rw [hυ]
    exact wl_ne q
  have A : McA C W wy a0 ch U f fuel V S 0 P' dp lt' on stk tn j υ := by
    refine ⟨B.xf (x1.mono (fun a q => by unfold mS at q; unfold mE; omega)), M.keep (by rw [r 84 (by decide)]) (ei 16) (ei 18) (r 96 (by decide)) (r 97 (by decide)), ⟨ei 7, ⟨S.1, (ei 14).trans h14, rfl⟩, ⟨ei 6, hd⟩, ei 8, ei 9, (ei 11).trans h11, ?_, ho, ⟨⟨ei 5, by omega⟩, fun i y hy => ?_⟩⟩, ⟨hf.1, hf.2.1⟩, hf.2.2.1, hf.2.2.2⟩
    · rw [hυ]
      exact wl_eq
    · rw [el 93 i (by omega)]
      exact hs i y (by rw [List.getElem?_append_left (List.getElem?_eq_some_iff.mp hy).1]; exact hy)
  rw [← hυ]
  exact cl_push A.fx A.skS (by omega) (fun τ4 g4 s4 _ => kk τ4 (x1.tr g4.ms) (A.sk g4 s4))
end INST2

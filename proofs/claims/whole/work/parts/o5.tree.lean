/-! THE CLASS: the machine follows trees -/
section CQ
variable (v w : Int) (a b c : Ast) (P k : Nat)
theorem cq_1 : cdB (aN 1 v w a b c) false P k = cdB a false P (k + 1) ++ (12, Int32.ofInt v, 0) :: cdB b false (P + (cdB a false P (k + 1)).length + 1) 0 := rfl
theorem cq_2 : cdB (aN 2 v w a b c) false P k = cdB a false P (k + 1) ++ (13, Int32.ofNat (P + (cdB a false P (k + 1)).length + (cdB b false (P + (cdB a false P (k + 1)).length + 1) 0).length + 2), 0) :: (cdB b false (P + (cdB a false P (k + 1)).length + 1) 0 ++ (14, Int32.ofNat (P + (cdB a false P (k + 1)).length + (cdB b false (P + (cdB a false P (k + 1)).length + 1) 0).length + 2 + (cdB c false (P + (cdB a false P (k + 1)).length + (cdB b false (P + (cdB a false P (k + 1)).length + 1) 0).length + 2) 0).length), 0) :: cdB c false (P + (cdB a false P (k + 1)).length + (cdB b false (P + (cdB a false P (k + 1)).length + 1) 0).length + 2) 0) := rfl
theorem cq_3 : cdB (aN 3 v w a b c) false P k = (15, Int32.ofInt v, k + 1) :: (cdB a false (P + 1) 0 ++ [(17, 0, 0)]) := rfl
theorem cq_4 : cdB (aN 4 v w a b c) false P k = (16, Int32.ofInt v, k + 1) :: (cdB a false (P + 1) 0 ++ [(17, 0, 0)]) := rfl
theorem cq_5 : cdB (aN 5 v w a b c) false P k = (18, Int32.ofNat (P + (cdB a false (P + 1) 0).length + 2), k + 1) :: (cdB a false (P + 1) 0 ++ (19, Int32.ofNat (P + (cdB a false (P + 1) 0).length + 3 + (cdB b false (P + (cdB a false (P + 1) 0).length + 3) 0).length), 0) :: (12, Int32.ofInt v, 0) :: cdB b false (P + (cdB a false (P + 1) 0).length + 3) 0) := rfl
theorem cq_6 : cdB (aN 6 v w a b c) false P k = cdB a false P (k + 1) ++ [(20, 0, 0)] := rfl
theorem cq_7 : cdB (aN 7 v w a b c) false P k = cdB a false P (k + 1) ++ [(21, 0, 0)] := rfl
theorem cq_8 : cdB (aN 8 v w a b c) false P k = cdB a false P (k + 1) ++ (cdB b false (P + (cdB a false P (k + 1)).length) 0 ++ [(cmO v, 0, 0)]) := rfl
theorem cq_9 : cdB (aN 9 v w a b c) false P k = cdB a false P (k + 1) ++ [(4, Int32.ofInt v, 0)] := rfl
theorem cq_10 : cdB (aN 10 v w a b c) false P k = cdB a false P (k + w.toNat) ++ cdB b true (P + (cdB a false P (k + w.toNat)).length) 0 := rfl
theorem cq_11 : cdB (aN 11 v w a b c) false P k = [(0, Int32.ofInt v, k + 1)] := rfl
theorem cq_12 : cdB (aN 12 v w a b c) false P k = [(1, Int32.ofInt v, k + 1)] := rfl
theorem cq_13 : cdB (aN 13 v 1 a b c) false P k = cdB a false P (k + 1) ++ [] ++ [(2, Int32.ofInt v, 0)] := rfl
theorem cq_16 : cdB (aN 16 v w a b c) false P k = cdB a false P (k + 1) ++ [(3, 0, 0)] := rfl
theorem cq_nx : cdB (aN 15 v 0 a b c) false P k = [(23, 0, k + 1)] := rfl
theorem cq_14 (h : w ≠ 0) : cdB (aN 14 v w a b c) false P k = cdB a false P (k + 1) ++ (if w = 1 then [] else cdB b false (P + (cdB a false P (k + 1)).length) 0 ++ (if w = 2 then [] else cdB c false (P + (cdB a false P (k + 1)).length + (cdB b false (P + (cdB a false P (k + 1)).length) 0).length) 0)) ++ [(22, Int32.ofInt v, 0)] := if_neg h
theorem cq_15 (h : w ≠ 0) : cdB (aN 15 v w a b c) false P k = cdB a false P (k + 1) ++ (if w = 1 then [] else cdB b false (P + (cdB a false P (k + 1)).length) 0 ++ (if w = 2 then [] else cdB c false (P + (cdB a false P (k + 1)).length + (cdB b false (P + (cdB a false P (k + 1)).length) 0).length) 0)) ++ [(24, 0, 0)] := if_neg h
theorem cq_lk (op : Nat) : cdB (aN op v w a b c) true P k = cdB a false P 0 ++ (lkO op, 0, 0) :: cdB b true (P + (cdB a false P 0).length + 1) 0 := rfl
theorem cq_nl : cdB .nil true P k = [] := rfl
end CQ
/-- the first instruction counts the node, and what is pending -/
def FsI (x : Ast) : Prop := ∀ P k, ∃ q L, cdB x false P k = q :: L ∧ k + 1 ≤ q.2.2 ∧ q.2.2 ≤ k + (cdB x false P k).length
theorem FsI.up {x : Ast} (h : FsI x) {P k n : Nat} (hn : 1 ≤ n) {M R : Cd} (hM : R = cdB x false P (k + n) ++ M) (hl : n ≤ M.length) : ∃ q L, R = q :: L ∧ k + 1 ≤ q.2.2 ∧ q.2.2 ≤ k + R.length := by
  obtain ⟨q, L, e, h1, h2⟩ := h P (k + n)
  refine ⟨q, L ++ M, ?_, by omega, ?_⟩
  · rw [hM, e]
    rfl
  · rw [hM, List.length_append]
    omega
theorem fs_all {E : Wev} (x : Ast) (lk : Bool) (nv : Nat) (h : exW E x lk nv) : (lk = false → FsI x) ∧ (lk = true → ∀ P, lkN x ≤ (cdB x true P 0).length) := by
  refine ex_ind (E := E) (P := fun x lk nv => (lk = false → FsI x) ∧ (lk = true → ∀ P, lkN x ≤ (cdB x true P 0).length)) ?_ ?_ ?_ ?_ ?_ ?_ ?_ ?_ ?_ ?_ ?_ ?_ ?_ ?_ x lk nv h
  · intro op v w a b nv ho _ _ _ _ ia _
    refine ⟨fun _ P k => ?_, fun z => by cases z⟩
    rcases ho with rfl | rfl
    · exact (ia.1 rfl).up (n := 1) (Nat.le_refl _) (cq_1 ..) (by simp)
    · rw [cq_5]
      exact ⟨_, _, rfl, Nat.le_refl _, by simp⟩
  · intro v w a b c nv _ _ _ ia _ _
    exact ⟨fun _ P k => (ia.1 rfl).up (n := 1) (Nat.le_refl _) (cq_2 ..) (by simp), fun z => by cases z⟩
  · intro op v w a nv ho _ _ ia
    refine ⟨fun _ P k => ?_, fun z => by cases z⟩
    rcases ho with rfl | rfl
    · rw [cq_3]
      exact ⟨_, _, rfl, Nat.le_refl _, by simp⟩
    · rw [cq_4]
      exact ⟨_, _, rfl, Nat.le_refl _, by simp⟩
  · intro op v w a nv ho _ ia
    refine ⟨fun _ P k => ?_, fun z => by cases z⟩
    rcases ho with rfl | rfl | rfl
    · exact (ia.1 rfl).up (n := 1) (Nat.le_refl _) (cq_6 ..) (by simp)
    · exact (ia.1 rfl).up (n := 1) (Nat.le_refl _) (cq_7 ..) (by simp)
    · exact (ia.1 rfl).up (n := 1) (Nat.le_refl _) (cq_16 ..) (by simp)
  · intro v w a b nv _ _ _ ia _
    exact ⟨fun _ P k => (ia.1 rfl).up (n := 1) (Nat.le_refl _) (cq_8 ..) (by simp), fun z => by cases z⟩
  · intro v w a nv _ _ ia
    exact ⟨fun _ P k => (ia.1 rfl).up (n := 1) (Nat.le_refl _) (cq_9 ..) (by simp), fun z => by cases z⟩
  · intro v w a b nv hw _ hb ia ib
    refine ⟨fun _ P k => (ia.1 rfl).up (n := w.toNat) ?_ (cq_10 ..) ?_, fun z => by cases z⟩
    · have := lk_pos hb
      omega
    · rw [hw]
      exact ib.2 rfl _
  · intro v w nv _
    refine ⟨fun _ P k => ?_, fun z => by cases z⟩
    rw [cq_11]
    exact ⟨_, _, rfl, Nat.le_refl _, Nat.le_refl _⟩
  · intro v w nv _
    refine ⟨fun _ P k => ?_, fun z => by cases z⟩
    rw [cq_12]
    exact ⟨_, _, rfl, Nat.le_refl _, Nat.le_refl _⟩
  · intro v a nv _ _ _ ia
    refine ⟨fun _ P k => (ia.1 rfl).up (n := 1) (Nat.le_refl _) ((cq_13 ..).trans (List.append_assoc ..)) (by simp), fun z => by cases z⟩
  · intro v w a b c nv _ hw _ ia _ _ _ _
    refine ⟨fun _ P k => ?_, fun z => by cases z⟩
    by_cases q : w = 0
    · subst q
      exact ⟨_, _, rfl, Nat.le_refl _, Nat.le_refl _⟩
    · exact (ia.1 rfl).up (n := 1) (Nat.le_refl _) ((cq_14 _ _ _ _ _ _ _ q).trans (List.append_assoc ..)) (by simp)
  · intro v nv _
    refine ⟨fun _ P k => ?_, fun z => by cases z⟩
    rw [cq_nx]
    exact ⟨_, _, rfl, Nat.le_refl _, Nat.le_refl _⟩
  · intro v w a b c nv _ hw _ ia _ _ _ _
    refine ⟨fun _ P k => ?_, fun z => by cases z⟩
    by_cases q : w = 0
    · subst q
      exact ⟨_, _, rfl, Nat.le_refl _, Nat.le_refl _⟩
    · exact (ia.1 rfl).up (n := 1) (Nat.le_refl _) ((cq_15 _ _ _ _ _ _ _ q).trans (List.append_assoc ..)) (by simp)
  · intro op v w a b nv _ _ hb ia
    refine ⟨fun z => (by cases z), fun _ P => ?_⟩
    rw [cq_lk, List.length_append, List.length_cons]
    rcases hb with rfl | ⟨_, hb⟩
    · show lkN .nil + 1 ≤ _
      show 0 + 1 ≤ _
      omega
    · have := hb.2 rfl (P + (cdB a false P 0).length + 1)
      show lkN b + 1 ≤ _
      omega
section PEND
variable {Z : zT} {d : Nat} {C V V' V2 : Nat × Nat × Nat × Nat} {W : Wld} {wy a0 ch U fuel : Nat} {f : Fc} {S : Es} {k P dp tn j nv hm : Nat} {lt : Int32} {on : List Nat} {stk vs args : List Int64} {σ τ υ : Sg} {K Kx : kS} {N : Nat → Prop} {n : Nat}
theorem stN_eq {g : Es → Rs × Es} : ∀ (n : Nat) (S : Es), S.1 ≤ fuel → stN fuel n S g = if S.1 + n ≤ fuel then g (S.1 + n, S.2) else (.inr (.inr 4), (fuel, S.2))
  | 0, S, h => by
    rw [if_pos (by omega)]
    rfl
  | n + 1, S, h => by
    rw [stN]
    unfold stR
    by_cases q : S.1 = fuel
    · rw [if_pos q, if_neg (by omega), ← q]
    · rw [if_neg q]
      show stN fuel n (S.1 + 1, S.2) g = _
      rw [stN_eq n (S.1 + 1, S.2) (by show S.1 + 1 ≤ fuel; omega)]
      show (if S.1 + 1 + n ≤ fuel then g (S.1 + 1 + n, S.2) else _) = _
      rw [show S.1 + 1 + n = S.1 + (n + 1) by omega]
/-- steps are pending: the first instruction will count them -/
theorem ev_pend {a : Ast} {g : Es → Rs × Es} {dp' P' j' : Nat} {on' : List Nat} {stk' : List Int64} {lt' : Int32} (wa : FsI a) (hn : n ≤ 2000000) (A : McA C W wy a0 ch U f fuel V S k P dp lt on stk tn j σ) (hP : P + (cdB a false P (k + n)).length ≤ C.1) (hC : CdF f P (cdB a false P (k + n))) (hK : McQ Z d C W wy a0 ch U f fuel hm N V σ dp' stk' on' lt' P' j' (stN fuel n S g) K)
    (h : McA C W wy a0 ch U f fuel V (S.1 + n, S.2) (k + n) P dp lt on stk tn (j + 3 * n) σ → McQ Z d C W wy a0 ch U f fuel hm N V σ dp' stk' on' lt' P' j' (g (S.1 + n, S.2)) K → C_X4_perform_16 Z (d + 9) σ (Int32.ofNat fuel) (Int32.ofNat tn) K) : C_X4_perform_16 Z (d + 9) σ (Int32.ofNat fuel) (Int32.ofNat tn) K := by
  obtain ⟨a1, a2, ⟨a7, ⟨s, a14, as⟩, ⟨a6, a6'⟩, a8, a9, a11, a10, al, ast⟩, ⟨af, af'⟩, at1, at2⟩ := id A
  rw [stN_eq n S af] at hK
  by_cases q : S.1 + n ≤ fuel
  · rw [if_pos q] at hK
    refine h ⟨a1, a2, ⟨a7, ⟨s, a14, ?_⟩, ⟨a6, a6'⟩, a8, a9, a11, a10, al, ast⟩, ⟨q, af'⟩, at1, ?_⟩ hK
    · show s + (k + n) = S.1 + n
      omega
    · show tn + (j + 3 * n) ≤ 3 * (S.1 + n)
      omega
  · rw [if_neg q] at hK
    obtain ⟨q0, L, e, h1, h2⟩ := wa P (k + n)
    have cl := a1.2.2.1.2.2.2.2.2.2.2
    rw [e] at hC
    have hc := hC.c
    have F := a1.fx
    obtain ⟨b1, b2, ⟨⟨c0r, c0s⟩, ⟨c1r, c1s⟩, ⟨c2r, c2s⟩, cne, c0, c1, c2, cl⟩, ⟨f0, f1, f2⟩, b5⟩ := id a1
    have e2 : σ.i C.2.2.2 P = Int32.ofNat q0.2.2 := by rw [f2]; exact hc.2.2
    have hlen : 0 < (cdB a false P (k + n)).length := by rw [e]; exact Nat.succ_pos _
    refine T_X4_perform_16 F ⟨fun z => absurd z ?_, fun _ => ⟨fun z => absurd z ?_, fun _ => ⟨fun z => absurd z ?_, fun _ => ⟨C.2.1, c0r, C.1, c0s, fun z => absurd z ?_, fun _ => ⟨C.2.2.2, c2r, C.1, c2s, ?_⟩⟩⟩⟩⟩
    · rw [show (10000000 : Int32) = Int32.ofNat 10000000 from rfl, oN_le (by decide) (by omega)]
      omega
    · rw [a11]
      decide
    · rw [a7, show Int32.ofNat P < 0 ↔ P < 0 from oN_lt (b := 0) (by omega) (by decide)]
      omega
    · rw [a7, oN_le (by omega) (by omega)]
      omega
    · rw [a7, a14, oN_t (by omega), e2, oN_add, oN_le (by omega) (by omega), oN_1]
      refine ⟨ib_oN (by omega) (by omega), fun z => absurd z (by omega), fun _ => ?_⟩
      refine T_X4_finish_0 F ⟨⟨by first | rfl | decide, by first | rfl | decide⟩, ?_⟩
      obtain ⟨υ, hυ⟩ : ∃ y, y = ((((σ.wi 83 14 (Int32.ofNat fuel)).wi 83 11 (4 : Int32)).wi 83 12 0).wl 83 13 0) := ⟨_, rfl⟩
      have x1 : XF mS σ υ := by
        rw [hυ]
        exact (((((XF.refl _ _).wi (Or.inl rfl)).wi (Or.inl rfl)).wi (Or.inl rfl)).wl (Or.inl rfl))
      have ei : ∀ k, υ.i 83 k = if k = 12 then 0 else if k = 11 then 4 else if k = 14 then Int32.ofNat fuel else σ.i 83 k := fun k => by
        rw [hυ]
        show (Sg.wi (Sg.wi (Sg.wi σ 83 14 (Int32.ofNat fuel)) 83 11 4) 83 12 0).i 83 k = _
        simp only [wi_i, true_and]
      have r : ∀ a, a ≠ 83 → υ.i a = σ.i a := fun a ha => by
        rw [hυ]
        show (Sg.wi (Sg.wi (Sg.wi σ 83 14 (Int32.ofNat fuel)) 83 11 4) 83 12 0).i a = _
        rw [wi_row ha, wi_row ha, wi_row ha]
      show K (.inl none) ((((σ.wi 83 14 (Int32.ofNat fuel)).wi 83 11 (4 : Int32)).wi 83 12 0).wl 83 13 0)
      rw [← hυ]
      refine hK V υ (x1.ms _ _ _) (a1.xf (x1.mono (fun a q => by unfold mS at q; unfold mE; omega))) (a2.keep (by rw [r 84 (by decide)]) (ei 16) (ei 18) (r 96 (by decide)) (r 97 (by decide))) ⟨ei 14, ei 11, ei 12, Or.inl rfl⟩ ⟨Nat.le_refl _, ?_⟩
      show S.2.2.2.1 ≤ 3 * fuel
      omega
/-- one run, then another -/
theorem McQ.bn {r : Rs × Es} {g : Int64 → Es → Rs × Es} {z : List Int64} {j1 P1 : Nat} {on1 : List Nat} (hj : j ≤ j1) (h : McQ Z d C W wy a0 ch U f fuel hm N V σ dp stk on lt P j (bnR r g) K) (hc : ∀ v S V' τ tn, MFr hm N V V' σ τ → McA C W wy a0 ch U f fuel V' S 0 P1 dp lt on1 (stk ++ z ++ [v]) tn (j1 + 1) τ → VlG W v → McQ Z d C W wy a0 ch U f fuel hm N V' τ dp stk on lt P j (g v S) K → C_X4_perform_16 Z (d + 9) τ (Int32.ofNat fuel) (Int32.ofNat tn) K) : McQ Z d C W wy a0 ch U f fuel hm N V σ dp (stk ++ z) on1 lt P1 j1 r K := by
  rcases r with ⟨v | v | v, S⟩
  · exact fun V' τ tn q A hv => hc v S V' τ tn q A hv (McQ.fr h q)
  · exact fun V' τ tn q b m ⟨s1, s2, s3, s4⟩ ⟨t1, t2, t3, t4⟩ => h V' τ tn q b m ⟨s1, s2, s3, fun i y hy => s4 i y (by rw [List.getElem?_append_left (List.getElem?_eq_some_iff.mp hy).1]; exact hy)⟩ ⟨t1, t2, t3, by omega⟩
  · exact h
end PEND

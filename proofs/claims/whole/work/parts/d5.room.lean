/-! THE CLASS: more room -/
theorem wr_eq {σ : Sg} {a k : Nat} {v : Rf} : (σ.wr a k v).r a k = v := by
  rw [wr_r, if_pos ⟨rfl, rfl⟩]
section ROOM
variable {Z : zT} {d : Nat} {σ τ υ : Sg} {K : kS}
/-- the cells that were there, are as they were; some more may be there -/
def Grw (σ τ : Sg) : Prop := (∃ x, τ.sh = σ.sh ++ x) ∧ ∀ b j, b < σ.sh.length → τ.i b j = σ.i b j ∧ τ.l b j = σ.l b j ∧ τ.r b j = σ.r b j
theorem Grw.refl (σ : Sg) : Grw σ σ := ⟨⟨[], (List.append_nil _).symm⟩, fun _ _ _ => ⟨rfl, rfl, rfl⟩⟩
theorem Grw.ln (h : Grw σ τ) : σ.sh.length ≤ τ.sh.length := by
  obtain ⟨x, hx⟩ := h.1
  rw [hx, List.length_append]
  exact Nat.le_add_right ..
theorem Grw.s {a : Nat} {s : Sh} (h : Grw σ τ) (hs : σ.sh[a]? = some s) : τ.sh[a]? = some s := by
  obtain ⟨x, hx⟩ := h.1
  rw [hx, List.getElem?_append_left (List.getElem?_eq_some_iff.mp hs).1]
  exact hs
/-- a longer copy of a row -/
def CpR (σ τ : Sg) (a m m' : Nat) : Prop := FX ΦC τ.sh τ.r ∧ τ.sh = σ.sh ++ [Sh.arr 0 m'] ∧ (∀ b j, b < σ.sh.length → τ.i b j = σ.i b j ∧ τ.l b j = σ.l b j ∧ τ.r b j = σ.r b j) ∧ ∀ j, j < m → τ.i σ.sh.length j = σ.i a j
theorem cl_copyI {a m m' : Nat} (F : FX ΦC σ.sh σ.r) (h : σ.sh[a]? = some (Sh.arr 0 m)) (hm : m < m') (hb : m' ≤ 60000000) (k : ∀ τ, CpR σ τ a m m' → K (.inl (some (.ref σ.sh.length))) τ) : C_J7_copyOf_59c91_0 Z (d + 1) σ a (Int32.ofNat m') K := by
  have ha := (List.getElem?_eq_some_iff.mp h).1
  refine T_J7_copyOf_59c91_0 F ⟨m, h, fun _ => ⟨?_, ?_, k _ ?_⟩, fun z => ?_⟩
  · rw [oN_t (by omega)]
    rintro (q | q)
    · rw [show (0 : Int32) = Int32.ofNat 0 from rfl, oN_lt (by omega) (by decide)] at q
      omega
    · omega
  · rw [if_neg (by rw [oN_lt (by omega) (by omega)]; omega), oN_t (by omega)]
    unfold cpb
    rw [oN_t (by omega)]
    have : (0 : Int32).toNatClampNeg = 0 := rfl
    rw [this]
    refine ⟨?_, ?_, ?_, ?_, ?_⟩
    all_goals first
      | decide
      | omega
      | (rw [show (0 : Int32) = Int32.ofNat 0 from rfl, oN_lt (by omega) (by decide)]; omega)
  · rw [if_neg (by rw [oN_lt (by omega) (by omega)]; omega), oN_t (by omega), oN_t (by omega)]
    refine ⟨FX.al cs_c F, rfl, fun b j hb => ?_, fun j hj => ?_⟩
    · refine ⟨?_, ?_, ?_⟩
      · show (if b = σ.sh.length ∧ 0 ≤ j ∧ j < 0 + m then (σ.al _).i a (0 + (j - 0)) else (if b = σ.sh.length then 0 else σ.i b j)) = _
        rw [if_neg (by omega), if_neg (by omega)]
      · show (if b = σ.sh.length then 0 else σ.l b j) = _
        rw [if_neg (by omega)]
      · show (if b = σ.sh.length then Rf.nul else σ.r b j) = _
        rw [if_neg (by omega)]
    · show (if σ.sh.length = σ.sh.length ∧ 0 ≤ j ∧ j < 0 + m then (if a = σ.sh.length then 0 else σ.i a (0 + (j - 0))) else _) = _
      rw [if_pos ⟨rfl, Nat.zero_le _, by omega⟩, if_neg (by omega), Nat.zero_add, Nat.sub_zero]
  · rw [oN_eq (by omega) (by omega)] at z
    omega
/-- a body begins at S: code, longer if need be -/
def OpR (σ τ : Sg) (S cap c0 c1 c2 cap' d0 d1 d2 : Nat) : Prop := FX ΦC τ.sh τ.r ∧ CoA τ cap' d0 d1 d2 ∧ (S + 901 < cap' ∧ τ.i 24 3 = Int32.ofNat S ∧ τ.i 24 4 = Int32.ofNat (S + 901) ∧ τ.i d2 S = 0) ∧ ((τ.sh = σ.sh ∧ cap' = cap ∧ d0 = c0 ∧ d1 = c1 ∧ d2 = c2) ∨ (τ.sh = σ.sh ++ [Sh.arr 0 cap'] ++ [Sh.arr 0 cap'] ++ [Sh.arr 0 cap'] ∧ (cap' = 2 * cap ∨ cap' = S + 902) ∧ (cap < cap' ∧ cap ≤ S + 901 ∧ 2 * cap ≤ cap') ∧ d0 = σ.sh.length ∧ d1 = σ.sh.length + 1 ∧ d2 = σ.sh.length + 2)) ∧
  (∀ b j, b < σ.sh.length → (¬ (b = 24 ∧ (j = 3 ∨ j = 4)) → ¬ (b = c2 ∧ j = S) → τ.i b j = σ.i b j) ∧ τ.l b j = σ.l b j ∧ (¬ (b = 24 ∧ j ≤ 2) → τ.r b j = σ.r b j)) ∧ ∀ j, j < S → τ.i d0 j = σ.i c0 j ∧ τ.i d1 j = σ.i c1 j ∧ τ.i d2 j = σ.i c2 j
theorem cl_opn {S cap c0 c1 c2 : Nat} (F : FX ΦC σ.sh σ.r) (ca : CoA σ cap c0 c1 c2) (hS : S ≤ 990000) (h1 : 1 ≤ cap) (hc : S ≤ cap ∧ cap ≤ 990000) (k : ∀ τ cap' d0 d1 d2, OpR σ τ S cap c0 c1 c2 cap' d0 d1 d2 → K (.inl none) τ) : C_X1_open_0 Z (d + 2) σ (Int32.ofNat S) K := by
  have ca' := ca
  obtain ⟨⟨z1, z2⟩, ⟨z3, z4⟩, ⟨z5, z6⟩, ⟨m1, m2, m3⟩, y0, y1, y2, hy⟩ := ca
  have l0 := (List.getElem?_eq_some_iff.mp z2).1
  have l1 := (List.getElem?_eq_some_iff.mp z4).1
  have l2 := (List.getElem?_eq_some_iff.mp z6).1
  have l24 : 101 < σ.sh.length := (List.getElem?_eq_some_iff.mp (F.s (a := 101) t0_101)).1
  have ea : Int32.ofNat S + 901 = Int32.ofNat (S + 901) := (Int32.ofNat_add S 901).symm
  have eb : Int32.ofNat (S + 901) + 1 = Int32.ofNat (S + 902) := oN_1 _
  have em : (2 : Int32) * Int32.ofNat cap = Int32.ofNat (2 * cap) := (Int32.ofNat_mul 2 cap).symm
  refine T_X1_open_0 F ⟨c0, z1, cap, z2, ?_⟩
  rw [ea, oN_lt (by omega) (by omega)]
  refine ⟨fun z => ⟨c2, z5, cap, z6, ib_oN (by omega) (by omega), ?_⟩, fun z => ⟨c0, z1, cap, z2, c0, z1, ?_⟩⟩
  · rw [oN_t (by omega)]
    refine k _ cap c0 c1 c2 ⟨F, ca', ⟨z, ?_, ?_, wi_eq⟩, Or.inl ⟨rfl, rfl, rfl, rfl, rfl⟩, fun b j hb => ⟨fun q1 q2 => ?_, rfl, fun _ => rfl⟩, fun j hj => ⟨?_, ?_, ?_⟩⟩
    · exact (wi_ne (by omega)).trans ((wi_ne (by omega)).trans wi_eq)
    · exact (wi_ne (by omega)).trans wi_eq
    · exact (wi_ne (by omega)).trans ((wi_ne (by omega)).trans (wi_ne (by omega)))
    · exact (wi_ne (by omega)).trans ((wi_ne (by omega)).trans (wi_ne (by omega)))
    · exact (wi_ne (by omega)).trans ((wi_ne (by omega)).trans (wi_ne (by omega)))
    · exact (wi_ne (by omega)).trans ((wi_ne (by omega)).trans (wi_ne (by omega)))
  · obtain ⟨m', em', hm'⟩ : ∃ m', (if (Int32.ofNat (S + 901) + 1) < (2 : Int32) * Int32.ofNat cap then (2 : Int32) * Int32.ofNat cap else Int32.ofNat (S + 901) + 1) = Int32.ofNat m' ∧ ((m' = 2 * cap ∧ S + 902 < 2 * cap) ∨ (m' = S + 902 ∧ 2 * cap ≤ S + 902)) := by
      rw [eb, em]
      have lt2 : Int32.ofNat (S + 902) < Int32.ofNat (2 * cap) ↔ S + 902 < 2 * cap := oN_lt (by omega) (by omega)
      by_cases q : S + 902 < 2 * cap
      · rw [if_pos (lt2.mpr q)]
        exact ⟨2 * cap, rfl, Or.inl ⟨rfl, q⟩⟩
      · rw [if_neg (fun y => q (lt2.mp y))]
        exact ⟨S + 902, rfl, Or.inr ⟨rfl, by omega⟩⟩
    rw [em']
    have lt : cap < m' := by omega
    have le : m' ≤ 60000000 := by omega
    refine cl_copyI (σ := (σ.wi 24 3 (Int32.ofNat S)).wi 24 4 (Int32.ofNat (S + 901))) F z2 lt le (fun τ1 h1 => ?_)
    obtain ⟨F1, s1, f1, g1⟩ := h1
    have F1' : FX ΦC (τ1.wr 24 0 (Rf.ptr σ.sh.length)).sh (τ1.wr 24 0 (Rf.ptr σ.sh.length)).r := F1.w (by decide +kernel)
    have s1 : τ1.sh = σ.sh ++ [Sh.arr 0 m'] := s1
    have f1 : ∀ b j, b < σ.sh.length → τ1.i b j = ((σ.wi 24 3 (Int32.ofNat S)).wi 24 4 (Int32.ofNat (S + 901))).i b j ∧ τ1.l b j = σ.l b j ∧ τ1.r b j = σ.r b j := f1
    have g1 : ∀ j, j < cap → τ1.i σ.sh.length j = σ.i c0 j := fun j hj => (g1 j hj).trans ((wi_ne (by omega)).trans (wi_ne (by omega)))
    have n1 : τ1.sh.length = σ.sh.length + 1 := by
      rw [s1, List.length_append]
      rfl
    refine ⟨c1, (f1 24 1 (by omega)).2.2.trans z3, ?_⟩
    have r1 : (τ1.wr 24 0 (Rf.ptr σ.sh.length)).sh[c1]? = some (Sh.arr 0 cap) := by
      show τ1.sh[c1]? = _
      rw [s1, List.getElem?_append_left l1]
      exact z4
    refine cl_copyI (σ := τ1.wr 24 0 (Rf.ptr σ.sh.length)) F1' r1 lt le (fun τ2 h2 => ?_)
    obtain ⟨F2, s2, f2, g2⟩ := h2
    have s2 : τ2.sh = τ1.sh ++ [Sh.arr 0 m'] := s2
    have f2 : ∀ b j, b < τ1.sh.length → τ2.i b j = τ1.i b j ∧ τ2.l b j = τ1.l b j ∧ τ2.r b j = (τ1.wr 24 0 (Rf.ptr σ.sh.length)).r b j := f2
    have g2 : ∀ j, j < cap → τ2.i τ1.sh.length j = τ1.i c1 j := g2
    have F2' : FX ΦC (τ2.wr 24 1 (Rf.ptr τ1.sh.length)).sh (τ2.wr 24 1 (Rf.ptr τ1.sh.length)).r := F2.w (by decide +kernel)
    have n2 : τ2.sh.length = σ.sh.length + 2 := by
      rw [s2, List.length_append, n1]
      rfl
    refine ⟨c2, ((f2 24 2 (by omega)).2.2.trans (wr_ne (by omega))).trans ((f1 24 2 (by omega)).2.2.trans z5), ?_⟩
    have r2 : (τ2.wr 24 1 (Rf.ptr τ1.sh.length)).sh[c2]? = some (Sh.arr 0 cap) := by
      show τ2.sh[c2]? = _
      rw [s2, List.getElem?_append_left (by omega), s1, List.getElem?_append_left l2]
      exact z6
    refine cl_copyI (σ := τ2.wr 24 1 (Rf.ptr τ1.sh.length)) F2' r2 lt le (fun τ3 h3 => ?_)
    obtain ⟨F3, s3, f3, g3⟩ := h3
    have s3 : τ3.sh = τ2.sh ++ [Sh.arr 0 m'] := s3
    have f3 : ∀ b j, b < τ2.sh.length → τ3.i b j = τ2.i b j ∧ τ3.l b j = τ2.l b j ∧ τ3.r b j = (τ2.wr 24 1 (Rf.ptr τ1.sh.length)).r b j := f3
    have g3 : ∀ j, j < cap → τ3.i τ2.sh.length j = τ2.i c2 j := g3
    have n3 : τ3.sh.length = σ.sh.length + 3 := by
      rw [s3, List.length_append, n2]
      rfl
    have F3' : FX ΦC (τ3.wr 24 2 (Rf.ptr τ2.sh.length)).sh (τ3.wr 24 2 (Rf.ptr τ2.sh.length)).r := F3.w (by decide +kernel)
    have at3 : τ3.i 24 3 = Int32.ofNat S := (f3 24 3 (by omega)).1.trans ((f2 24 3 (by omega)).1.trans ((f1 24 3 (by omega)).1.trans ((wi_ne (by omega)).trans wi_eq)))
    have at4 : τ3.i 24 4 = Int32.ofNat (S + 901) := (f3 24 4 (by omega)).1.trans ((f2 24 4 (by omega)).1.trans ((f1 24 4 (by omega)).1.trans wi_eq))
    have sh0 : τ3.sh[σ.sh.length]? = some (Sh.arr 0 m') := by
      rw [s3, List.getElem?_append_left (by omega), s2, List.getElem?_append_left (by omega), s1, List.getElem?_append_right (Nat.le_refl _), Nat.sub_self]
      rfl
    have sh1 : τ3.sh[σ.sh.length + 1]? = some (Sh.arr 0 m') := by
      rw [s3, List.getElem?_append_left (by omega), s2, List.getElem?_append_right (by omega), n1, Nat.sub_self]
      rfl
    have sh2 : τ3.sh[σ.sh.length + 2]? = some (Sh.arr 0 m') := by
      rw [s3, List.getElem?_append_right (by omega), n2, Nat.sub_self]
      rfl
    refine ⟨τ2.sh.length, rfl, m', by rw [n2]; exact sh2, ?_⟩
    rw [at3, oN_t (by omega)]
    refine ⟨ib_oN (by omega) (by omega), k _ m' σ.sh.length (σ.sh.length + 1) (σ.sh.length + 2) ⟨F3', ⟨⟨?_, sh0⟩, ⟨?_, sh1⟩, ⟨?_, sh2⟩, ⟨by omega, by omega, by omega⟩, Or.inr (by omega), Or.inr (by omega), Or.inr (by omega), by omega⟩, ⟨by omega, ?_, ?_, ?_⟩, Or.inr ⟨?_, by omega, ⟨lt, by omega, by omega⟩, rfl, rfl, rfl⟩, fun b j hb => ⟨fun q1 q2 => ?_, ?_, fun q => ?_⟩, fun j hj => ⟨?_, ?_, ?_⟩⟩⟩
    · exact (wr_ne (by omega)).trans ((f3 24 0 (by omega)).2.2.trans ((wr_ne (by omega)).trans ((f2 24 0 (by omega)).2.2.trans wr_eq)))
    · rw [← n1]
      exact (wr_ne (by omega)).trans ((f3 24 1 (by omega)).2.2.trans wr_eq)
    · rw [← n2]
      exact wr_eq (σ := τ3) (a := 24) (k := 2) (v := Rf.ptr τ2.sh.length)
    · exact (wi_ne (by omega)).trans at3
    · exact (wi_ne (by omega)).trans at4
    · rw [← n2]
      exact wi_eq
    · show τ3.sh = _
      rw [s3, s2, s1]
    · exact (wi_ne (by omega)).trans ((f3 b j (by omega)).1.trans ((f2 b j (by omega)).1.trans ((f1 b j hb).1.trans ((wi_ne (by omega)).trans (wi_ne (by omega))))))
    · exact (f3 b j (by omega)).2.1.trans ((f2 b j (by omega)).2.1.trans (f1 b j hb).2.1)
    · exact (wr_ne (by omega)).trans ((f3 b j (by omega)).2.2.trans ((wr_ne (by omega)).trans ((f2 b j (by omega)).2.2.trans ((wr_ne (by omega)).trans (f1 b j hb).2.2))))
    · exact (wi_ne (by omega)).trans ((f3 _ j (by omega)).1.trans ((f2 _ j (by omega)).1.trans (g1 j (by omega))))
    · rw [← n1]
      exact (wi_ne (by omega)).trans ((f3 _ j (by omega)).1.trans ((g2 j (by omega)).trans ((f1 c1 j l1).1.trans ((wi_ne (by omega)).trans (wi_ne (by omega))))))
    · rw [← n2]
      exact (wi_ne (by omega)).trans ((g3 j (by omega)).trans ((f2 c2 j (by omega)).1.trans ((f1 c2 j l2).1.trans ((wi_ne (by omega)).trans (wi_ne (by omega))))))
end ROOM

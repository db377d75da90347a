/-! THE CLASS AT REST -/
/-- the rows of signs and of code, names -/
def HC (B : Nat × Nat × Nat × Nat × Nat) (C : Nat × Nat × Nat × Nat) (W : Wld) (σ : Sg) : Prop := FX ΦC σ.sh σ.r ∧ SgA σ B.1 B.2.1 B.2.2.1 B.2.2.2.1 B.2.2.2.2 ∧ CoA σ C.1 C.2.1 C.2.2.1 C.2.2.2 ∧ (B.2.1 ≠ C.2.1 ∧ B.2.1 ≠ C.2.2.1 ∧ B.2.1 ≠ C.2.2.2 ∧ B.2.2.1 ≠ C.2.1 ∧ B.2.2.1 ≠ C.2.2.1 ∧ B.2.2.1 ≠ C.2.2.2) ∧
  (σ.i 28 0 = Int32.ofNat W.1.length ∧ W.1.length ≤ 24 ∧ NmS (W.1.map (·.1)) 0 σ ∧ (W.1.map (·.1)).Nodup ∧ ∀ (k : Nat) x, W.1[k]? = some x → σ.i 3 k = if x.2.1 = true then 1 else 0) ∧
  (σ.i 28 1 = Int32.ofNat W.2.1.length ∧ W.2.1.length ≤ 24 ∧ NmS (W.2.1.map (·.1)) 24 σ ∧ (W.2.1.map (·.1)).Nodup ∧ ∀ (k : Nat) x, W.2.1[k]? = some x → σ.i 31 k = Int32.ofNat x.2.1 ∧ (1 ≤ x.2.1 ∧ x.2.1 ≤ 3)) ∧
  (σ.i 28 2 = Int32.ofNat W.2.2.1.length ∧ W.2.2.1.length ≤ 8 ∧ NmS W.2.2.1 48 σ ∧ W.2.2.1.Nodup)
/-- the world at rest: a where its code ends -/
def CRs (B : Nat × Nat × Nat × Nat × Nat) (C : Nat × Nat × Nat × Nat) (W : Wld) (a : Nat) (σ : Sg) : Prop := HC B C W σ ∧ WK W.1 σ ∧ WJ W.2.1 σ ∧ WMc C a W.2.2.2 σ ∧ WfW W ∧ StS W σ ∧ (64 ≤ B.1 ∧ a ≤ 902 + 901 * W.2.2.2.length) ∧ ∃ x, x ≤ 16 ∧ σ.i 28 3 = Int32.ofNat x
section RST
variable {Z : zT} {d : Nat} {t : Nat → Int32} {n N A m : Nat} {B B' : Nat × Nat × Nat × Nat × Nat} {C C' : Nat × Nat × Nat × Nat} {W : Wld} {σ τ υ : Sg} {K : kS} {a : Nat}
theorem HB.hc (h : HB t n N B C W σ) : HC B C W σ := ⟨h.1, h.2.1, h.2.2.2.2.1, h.2.2.2.2.2⟩
theorem HC.hb (h : HC B C W σ) (s : SgS t n N σ B.2.1 B.2.2.1 B.2.2.2.1 B.2.2.2.2) (hn : n ≤ 8192 ∧ N + 1 ≤ B.1) : HB t n N B C W σ := ⟨h.1, h.2.1, s, hn, h.2.2.1, h.2.2.2⟩
theorem HC.mv (h : HC B C W σ) (f : FX ΦC τ.sh τ.r) (sa : SgA τ B'.1 B'.2.1 B'.2.2.1 B'.2.2.2.1 B'.2.2.2.2) (ca : CoA τ C'.1 C'.2.1 C'.2.2.1 C'.2.2.2) (ne : B'.2.1 ≠ C'.2.1 ∧ B'.2.1 ≠ C'.2.2.1 ∧ B'.2.1 ≠ C'.2.2.2 ∧ B'.2.2.1 ≠ C'.2.1 ∧ B'.2.2.1 ≠ C'.2.2.1 ∧ B'.2.2.1 ≠ C'.2.2.2) (gi : ∀ b j, (b = 28 ∧ j < 3) ∨ b = 3 ∨ b = 31 → τ.i b j = σ.i b j) (gl : ∀ b j, b = 29 ∨ b = 30 → j < 56 → τ.l b j = σ.l b j) : HC B' C' W τ := by
  obtain ⟨-, -, -, -, ⟨k1, k2, k3, k4, k5⟩, ⟨q1, q2, q3, q4, q5⟩, ⟨l1, l2, l3, l4⟩⟩ := h
  refine ⟨f, sa, ca, ne, ⟨(gi 28 0 (by omega)).trans k1, k2, k3.keep (fun k hk => ?_), k4, fun k x hx => (gi 3 k (by omega)).trans (k5 k x hx)⟩, ⟨(gi 28 1 (by omega)).trans q1, q2, q3.keep (fun k hk => ?_), q4, fun k x hx => ⟨(gi 31 k (by omega)).trans (q5 k x hx).1, (q5 k x hx).2⟩⟩, ⟨(gi 28 2 (by omega)).trans l1, l2, l3.keep (fun k hk => ?_), l4⟩⟩
  · rw [List.length_map] at hk
    exact ⟨gl 29 _ (by omega) (by omega), gl 30 _ (by omega) (by omega)⟩
  · rw [List.length_map] at hk
    exact ⟨gl 29 _ (by omega) (by omega), gl 30 _ (by omega) (by omega)⟩
  · exact ⟨gl 29 _ (by omega) (by omega), gl 30 _ (by omega) (by omega)⟩
theorem StS.keep (h : StS W σ) (e1 : τ.i 1 14 = σ.i 1 14) (e2 : ∀ j, τ.i 38 j = σ.i 38 j) (e3 : ∀ b j, 34 ≤ b → b ≤ 37 → τ.l b j = σ.l b j) : StS W τ := by
  obtain ⟨⟨h1, h2⟩, h3, h4⟩ := h
  refine ⟨⟨e1.trans h1, fun i k hk => (e2 i).trans (h2 i k hk)⟩, fun c hc m m1 m2 => ?_, fun p k hp hk m m1 m2 => ?_⟩
  · rw [e3 34 _ (by omega) (by omega), e3 35 _ (by omega) (by omega)]
    exact h3 c hc m m1 m2
  · rw [e3 36 _ (by omega) (by omega), e3 37 _ (by omega) (by omega)]
    exact h4 p k hp hk m m1 m2
/-- methods, where the program's code may be another -/
theorem MtC.kp {a0 a1 m u : Nat} {x : Mtd × Bool} (h : MtC C a0 m x σ) (hm : m ≤ u) (ha : a0 ≤ a1) (gi : ∀ a j, mtI u a j → τ.i a j = σ.i a j) (gl : ∀ a j, mtL u a j → τ.l a j = σ.l a j) (gc : ∀ j, 902 ≤ j → j < a0 → τ.i C'.2.1 j = σ.i C.2.1 j ∧ τ.i C'.2.2.1 j = σ.i C.2.2.1 j ∧ τ.i C'.2.2.2 j = σ.i C.2.2.2 j) : MtC C' a1 m x τ := by
  obtain ⟨c1, c2, c3, c4, ⟨t1, t2, t3, t4, t5⟩, S, s1, s2, s3, s4⟩ := h
  refine ⟨(gi 11 m (by unfold mtI; omega)).trans c1, (gi 12 m (by unfold mtI; omega)).trans c2, (gi 13 m (by unfold mtI; omega)).trans c3, fun j hj => ?_, ⟨(gi 18 m (by unfold mtI; omega)).trans t1, t2, t3, fun j l hl => ?_, (gl 23 m (by unfold mtL; omega)).trans t5⟩, S, (gi 14 m (by unfold mtI; omega)).trans s1, s2, by omega, fun j q hq => ?_⟩
  · obtain ⟨p1, p2, p3⟩ := c4 j hj
    exact ⟨(gi 15 _ (by unfold mtI; omega)).trans p1, (gi 16 _ (by unfold mtI; omega)).trans p2, (gi 17 _ (by unfold mtI; omega)).trans p3⟩
  · have := (List.getElem?_eq_some_iff.mp hl).1
    exact (t4 j l hl).keep ⟨gi 19 _ (by unfold mtI; omega), gi 20 _ (by unfold mtI; omega), gi 21 _ (by unfold mtI; omega), gl 22 _ (by unfold mtL; omega)⟩
  · have hl := (List.getElem?_eq_some_iff.mp hq).1
    rw [List.length_append, List.length_singleton] at hl
    obtain ⟨g1, g2, g3⟩ := gc (S + j) (by omega) (by omega)
    obtain ⟨k1, k2, k3⟩ := s4 j q hq
    exact ⟨g1.trans k1, g2.trans k2, g3.trans k3⟩
theorem WMc.kp {a0 a1 : Nat} {ms : List (Mtd × Bool)} (h : WMc C a0 ms σ) (g10 : τ.i 10 0 = σ.i 10 0) (g24 : τ.i 24 3 = Int32.ofNat a1) (ha : a0 ≤ a1 ∧ a1 < C'.1 ∧ capK C'.1) (gi : ∀ a j, mtI ms.length a j → τ.i a j = σ.i a j) (gl : ∀ a j, mtL ms.length a j → τ.l a j = σ.l a j) (gc : ∀ j, 902 ≤ j → j < a0 → τ.i C'.2.1 j = σ.i C.2.1 j ∧ τ.i C'.2.2.1 j = σ.i C.2.2.1 j ∧ τ.i C'.2.2.2 j = σ.i C.2.2.2 j) : WMc C' a1 ms τ := by
  obtain ⟨m1, m2, m3, ⟨m4, m5, m6⟩, mm⟩ := h
  refine ⟨g10.trans m1, m2, g24, ⟨by omega, ha.2⟩, fun m x hx => ?_⟩
  have := (List.getElem?_eq_some_iff.mp hx).1
  exact (mm m x hx).kp (by omega) ha.1 gi gl gc
/-- the world's own places; the rows of code may be others -/
def wlI (b j : Nat) : Prop := (b = 1 ∧ j = 14) ∨ (2 ≤ b ∧ b ≤ 23) ∨ (b = 24 ∧ j = 3) ∨ (b = 28 ∧ j < 3) ∨ (31 ≤ b ∧ b ≤ 38)
theorem CRs.mv (h : CRs B C W a σ) (f : FX ΦC τ.sh τ.r) (sa : SgA τ B'.1 B'.2.1 B'.2.2.1 B'.2.2.2.1 B'.2.2.2.2) (ca : CoA τ C'.1 C'.2.1 C'.2.2.1 C'.2.2.2) (ne : B'.2.1 ≠ C'.2.1 ∧ B'.2.1 ≠ C'.2.2.1 ∧ B'.2.1 ≠ C'.2.2.2 ∧ B'.2.2.1 ≠ C'.2.1 ∧ B'.2.2.1 ≠ C'.2.2.1 ∧ B'.2.2.1 ≠ C'.2.2.2) (hb : 64 ≤ B'.1) (hc : a < C'.1 ∧ capK C'.1) (gi : ∀ b j, wlI b j → τ.i b j = σ.i b j) (gl : ∀ b j, (b = 22 ∨ b = 23 ∨ ((b = 29 ∨ b = 30) ∧ j < 56) ∨ (34 ≤ b ∧ b ≤ 37)) → τ.l b j = σ.l b j) (gc : ∀ j, 902 ≤ j → j < a → τ.i C'.2.1 j = σ.i C.2.1 j ∧ τ.i C'.2.2.1 j = σ.i C.2.2.1 j ∧ τ.i C'.2.2.2 j = σ.i C.2.2.2 j) (hx : ∃ x, x ≤ 16 ∧ τ.i 28 3 = Int32.ofNat x) : CRs B' C' W a τ := by
  obtain ⟨h1, h2, h3, h4, h5, h6, ⟨h7, h8⟩, -⟩ := h
  have l24 := h1.2.2.2.2.1.2.1
  refine ⟨h1.mv f sa ca ne (fun b j q => gi b j (by unfold wlI; omega)) (fun b j q1 q2 => gl b j (by omega)), h2.keep l24 (fun k _ => ⟨gi _ _ (by unfold wlI; omega), gi _ _ (by unfold wlI; omega), fun w _ i _ => ⟨gi _ _ (by unfold wlI; omega), gi _ _ (by unfold wlI; omega)⟩⟩), h3.keep (fun k _ => ⟨gi _ _ (by unfold wlI; omega), gi _ _ (by unfold wlI; omega)⟩), h4.kp (gi _ _ (by unfold wlI; omega)) ((gi _ _ (by unfold wlI; omega)).trans h4.2.2.1) ⟨Nat.le_refl _, hc⟩ (fun b j q => gi b j (by unfold mtI at q; unfold wlI; omega)) (fun b j q => gl b j (by unfold mtL at q; omega)) gc, h5, h6.keep (gi _ _ (by unfold wlI; omega)) (fun j => gi _ _ (by unfold wlI; omega)) (fun b j q1 q2 => gl b j (by omega)), ⟨hb, h8⟩, hx⟩
/-- cutting leaves the world as it is -/
theorem CRs.cut (h : CRs B C W a σ) (g : CutR B B' σ τ) : CRs B' C W a τ := by
  obtain ⟨⟨g1, g2⟩, g3, g4, g5, g6⟩ := g
  have h1 := h.1
  have hm := h.2.2.2.1.2.2.2.1
  have hb := h.2.2.2.2.2.2.1.1
  obtain ⟨x, hx, ex⟩ := h.2.2.2.2.2.2.2
  obtain ⟨f, sa, ca, ne, -⟩ := h1
  have l100 : 101 < σ.sh.length := (List.getElem?_eq_some_iff.mp (f.s (a := 101) t0_101)).1
  obtain ⟨⟨a1, a2⟩, ⟨a3, a4⟩, ⟨a5, a6⟩, ⟨a7, a8⟩, ⟨n1, n2⟩, c1, c2, c3, c4, hc⟩ := sa
  obtain ⟨⟨z1, z2⟩, ⟨z3, z4⟩, ⟨z5, z6⟩, zn, y0, y1, y2, yc⟩ := ca
  have l0 := (List.getElem?_eq_some_iff.mp z2).1
  have l1 := (List.getElem?_eq_some_iff.mp z4).1
  have l2 := (List.getElem?_eq_some_iff.mp z6).1
  have hs : ∀ (b : Nat) s, σ.sh[b]? = some s → τ.sh[b]? = some s := fun b s q => by
    have lb := (List.getElem?_eq_some_iff.mp q).1
    rcases g3 with ⟨-, e⟩ | ⟨e, -⟩
    · rw [e]
      exact q
    · rw [e, List.getElem?_append_left (by simp only [List.length_append]; omega), List.getElem?_append_left (by simp only [List.length_append]; omega), List.getElem?_append_left (by simp only [List.length_append]; omega), List.getElem?_append_left lb]
      exact q
  refine h.mv g1 g2 ⟨⟨(g6 24 0 (by omega) (by omega)).trans z1, hs _ _ z2⟩, ⟨(g6 24 1 (by omega) (by omega)).trans z3, hs _ _ z4⟩, ⟨(g6 24 2 (by omega) (by omega)).trans z5, hs _ _ z6⟩, zn, y0, y1, y2, yc⟩ ?_ ?_ hm.2 (fun b j q => g4 b j (by unfold wlI at q; omega) (by unfold wlI at q; omega) (by unfold wlI at q; omega) (by unfold wlI at q; omega)) (fun b j q => g5 b j (by omega) (by omega) (by omega)) (fun j _ _ => ⟨g4 _ j l0 (by omega) (by omega) (by omega), g4 _ j l1 (by omega) (by omega) (by omega), g4 _ j l2 (by omega) (by omega) (by omega)⟩) ⟨x, hx, (g4 28 3 (by omega) (by omega) (by omega) (by omega)).trans ex⟩
  · rcases g3 with ⟨e, -⟩ | ⟨-, -, e1, e2, -⟩
    · rw [e]
      exact ne
    · rw [e1, e2]
      omega
  · rcases g3 with ⟨e, -⟩ | ⟨-, e, -⟩
    · rw [e]
      exact hb
    · omega
end RST

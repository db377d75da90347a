/-! THE CLASS: program -/
/-- what reading a program's body leaves -/
def PgF (C : Nat × Nat × Nat × Nat) (σ τ : Sg) : Prop := τ.sh = σ.sh ∧ (∀ b j, b < σ.sh.length → b ≠ 24 → τ.r b j = σ.r b j) ∧ (∀ b j, b < σ.sh.length → ¬ (b = 24 ∧ (j = 3 ∨ j = 4)) → ¬ (b = 40 ∧ ((3 ≤ j ∧ j ≤ 6) ∨ j = 9)) → ¬ (b = 28 ∧ j = 3) → ¬ ((b = C.2.1 ∨ b = C.2.2.1 ∨ b = C.2.2.2) ∧ j ≤ 901) → τ.i b j = σ.i b j) ∧ ∀ b j, b < σ.sh.length → ¬ ((b = 29 ∨ b = 30) ∧ 56 ≤ j) → τ.l b j = σ.l b j
section PRG
variable {Z : zT} {d : Nat} {t : Nat → Int32} {n N A m : Nat} {B B' : Nat × Nat × Nat × Nat × Nat} {C C' : Nat × Nat × Nat × Nat} {W : Wld} {σ τ υ : Sg} {K : kS} {a : Nat}
theorem cl_bodyP {R : HR} (hd : 191 ≤ d) (h : CB0 t n N B C W (-1) σ) (hb : BdS t n N [] R σ) (hc : 1804 ≤ C.1 ∧ C.1 ≤ 990000) (k : ∀ τ, HB t n N B C W τ → PgF C σ τ → BdS t n N [] (hbX t n (enW W.1 W.2.1 W.2.2.1 (-1)) [] R) τ → (∀ p p' c' y, R = .inr (p, []) → pX t n (enW W.1 W.2.1 W.2.2.1 (-1)) 12 false [] p 0 = .inr (p', c', [], y) → (cdB y false 0 0).length + 1 ≤ 901 ∧ CdH 0 C.2.1 C.2.2.1 C.2.2.2 (cdB y false 0 0 ++ [(25, 0, 0)]) τ) → K (.inl none) τ) : C_X7_readBody_0 Z (d + 1) σ 0 K := by
  refine cl_body (S := 0) hd h hb (fun _ _ _ nm hn => by cases hn) (Nat.zero_le _) (by omega) (by omega) ⟨Nat.zero_le _, hc.2⟩ (fun z => absurd z (by decide)) (fun τ τ1 cap' d0 d1 d2 ho st => ?_)
  have cbs := st.cbs
  have hr : RdF 0 d0 d1 d2 (τ1.wi 40 9 0) τ := cbs.2.2.2.2.2.2.2.2.2.2.2
  have bd := st.bd
  rw [hbX_eq] at bd
  obtain ⟨-, -, -, shp, fr, -⟩ := ho
  obtain ⟨q0, q1, q2, q3, q4⟩ : τ1.sh = σ.sh ∧ cap' = C.1 ∧ d0 = C.2.1 ∧ d1 = C.2.2.1 ∧ d2 = C.2.2.2 := by
    rcases shp with q | q
    · exact q
    · have := q.2.2.1.2.1
      omega
  subst q1 q2 q3 q4
  obtain ⟨r1, r2, r3, r4⟩ := hr
  refine k τ cbs.hb ⟨r1.trans q0, fun b j l q => ?_, fun b j l p1 p2 p3 p4 => ?_, fun b j l q => ?_⟩ bd (fun p p' c' y e e2 => ?_)
  · rw [r2]
    exact (fr b j l).2.2 (by omega)
  · rw [r3 b j (by unfold rdI; omega), wi_ne (by omega)]
    exact (fr b j l).1 p1 (by omega)
  · rw [r4 b j q]
    exact (fr b j l).2.1
  · subst e
    have eR : emR 25 0 (gR (pX t n (enW W.1 W.2.1 W.2.2.1 (-1)) 12 false) 0 [] (bd0 (.inr (p, [])))) = .inr (p', c', [], [] ++ cdB y false (0 + 0) 0 ++ [(25, 0, 0)], 0) := by
      unfold gR bdR bd0
      dsimp only
      rw [e2]
      rfl
    obtain ⟨x, x1, x2⟩ := st.atX
    rw [eR] at st
    obtain ⟨-, -, ⟨x', x3, x4, x5⟩, -⟩ := st
    obtain ⟨g1, g2, g3, g4⟩ := x5 rfl
    rw [List.nil_append] at g1 g3
    rw [List.length_append, List.length_singleton] at g1
    have g1 : x' = (cdB y false 0 0).length + 1 := g1
    exact ⟨by omega, g3⟩
/-- what program() comes to -/
def PrR (t : Nat → Int32) (n : Nat) (W : Wld) (a : Nat) (B : Nat × Nat × Nat × Nat × Nat) (C : Nat × Nat × Nat × Nat) (σ τ : Sg) : Prop := ∃ B', CRs B' C W a τ ∧ TeF B B' C C σ τ ∧ τ.i 1 16 = σ.i 1 16 ∧ τ.i 40 2 = Int32.ofNat (prR t n W).2.1 ∧ ((prR t n W).1 = -1 → (cdB (prR t n W).2.2 false 0 0).length + 1 ≤ 901 ∧ CdH 0 C.2.1 C.2.2.1 C.2.2.2 (cdB (prR t n W).2.2 false 0 0 ++ [(25, 0, 0)]) τ)
theorem cl_prog (hZ : ZK Z) (hd : 215 ≤ d) (R : CRs B C W a σ) (T : TxC t n A m σ) (k : ∀ τ, PrR t n W a B C σ τ → K (.inl (some (.int (Int32.ofInt (prR t n W).1)))) τ) : C_X7_readProgram_0 Z (d + 1) σ A (Int32.ofNat n) K := by
  obtain ⟨e, rfl⟩ : ∃ e, d = e + 3 := ⟨d - 3, by omega⟩
  have nn : n ≤ 8192 := T.2.1.2.1
  refine T_X7_readProgram_0 R.1.1 (cl_cut hZ (by omega) R.1.1 T R.1.2.1 (fun τ1 N B1 cr ss hN => ?_))
  have R1 := R.cut cr
  refine cl_begin R1.1.1 (fun τ2 s2 l2 r2 i2 x3 x4 x5 x6 => ?_)
  have F2 : FX ΦC τ2.sh τ2.r := by rw [s2, r2]; exact R1.1.1
  show C_X7_readBody_0 Z (e + 3) (((τ2.wi 40 7 (0 : Int32)).wi 40 8 (-1 : Int32)).wi 28 3 (0 : Int32)) 0 _
  obtain ⟨τ3, e3⟩ : ∃ x, ((τ2.wi 40 7 (0 : Int32)).wi 40 8 (-1 : Int32)).wi 28 3 (0 : Int32) = x := ⟨_, rfl⟩
  have gs : τ3.sh = τ1.sh := by rw [← e3]; exact s2
  have gl : τ3.l = τ1.l := by rw [← e3]; exact l2
  have gr : τ3.r = τ1.r := by rw [← e3]; exact r2
  have gi : ∀ b j, ¬ (b = 40 ∧ 3 ≤ j ∧ j ≤ 8) → ¬ (b = 28 ∧ j = 3) → τ3.i b j = τ1.i b j := fun b j q1 q2 => by
    rw [← e3, wi_ne (by omega), wi_ne (by omega), wi_ne (by omega)]
    exact i2 b j (by omega)
  have gk : ∀ j, 3 ≤ j → j ≤ 6 → τ3.i 40 j = τ2.i 40 j := fun j q1 q2 => by rw [← e3, wi_ne (by omega), wi_ne (by omega), wi_ne (by omega)]
  have g7 : τ3.i 40 7 = 0 := by rw [← e3, wi_ne (by omega), wi_ne (by omega), wi_eq]
  have g8 : τ3.i 40 8 = -1 := by rw [← e3, wi_ne (by omega), wi_eq]
  have g28 : τ3.i 28 3 = 0 := by rw [← e3, wi_eq]
  rw [e3]
  clear e3
  have F3 : FX ΦC τ3.sh τ3.r := by rw [gs, gr]; exact R1.1.1
  have sa1 := R1.1.2.1
  have ca1 := R1.1.2.2.1
  have hb1 := R1.2.2.2.2.2.2.1
  obtain ⟨m1, m2, m3, m4, mm⟩ := R1.2.2.2.1
  have cle := m4.2.2.le
  have l100 : 101 < σ.sh.length := (List.getElem?_eq_some_iff.mp (R.1.1.s (a := 101) t0_101)).1
  have l13 : σ.sh.length ≤ τ1.sh.length := by
    obtain ⟨dyn, q⟩ := (cr.te R.2.2.2.2.2.2.1.1 C).1
    rw [q, List.length_append]
    exact Nat.le_add_right ..
  have R3 : CRs B1 C W a τ3 := by
    refine R1.mv F3 (by unfold SgA; rw [gs, gr]; exact sa1) (by unfold CoA; rw [gs, gr]; exact ca1) R1.1.2.2.2.1 hb1.1 m4.2 (fun b j q => gi b j (by unfold wlI at q; omega) (by unfold wlI at q; omega)) (fun b j _ => by rw [gl]) (fun j _ _ => ?_) ⟨0, by omega, g28⟩
    obtain ⟨-, -, -, -, y0, y1, y2, -⟩ := ca1
    exact ⟨gi _ j (by omega) (by omega), gi _ j (by omega) (by omega), gi _ j (by omega) (by omega)⟩
  have ss3 : SgS t n N τ3 B1.2.1 B1.2.2.1 B1.2.2.2.1 B1.2.2.2.2 := by
    obtain ⟨-, -, -, -, -, e0, e1, e2, e3, -⟩ := sa1
    exact ss.keep (gi 41 4 (by omega) (by omega)) (funext fun j => gi _ j (by omega) (by omega)) (funext fun j => gi _ j (by omega) (by omega)) (by rw [gl]) (by rw [gl])
  have hB3 := R3.1.hb ss3 ⟨nn, hN⟩
  have b3 : BdS t n N [] (.inr (fiS t n, [])) τ3 := ⟨⟨⟨0, Nat.zero_le _, (gk 3 (by omega) (by omega)).trans x3, rfl⟩, (gk 4 (by omega) (by omega)).trans x4⟩, ⟨g28, Nat.zero_le _, fun j nm hj hn => by cases hj⟩, ⟨(gk 5 (by omega) (by omega)).trans x5, (gk 6 (by omega) (by omega)).trans x6⟩, fun e he => by cases he⟩
  refine cl_bodyP (by omega) (HB.cb (w := -1) _ _ _ _ _ _ hB3 ⟨g7, g8, by omega, by omega⟩) b3 ⟨cle.1, by omega⟩ (fun τ5 hB5 pg b5 cd5 => ?_)
  -- the end, from where the reader stands
  have fin : ∀ τ6 R6, HdF τ5 τ6 → BdS t n N [] R6 τ6 → vdP R6 = Int32.ofInt (prR t n W).1 → vdR R6 = Int32.ofNat (prR t n W).2.1 → ((prR t n W).1 = -1 → (cdB (prR t n W).2.2 false 0 0).length + 1 ≤ 901 ∧ CdH 0 C.2.1 C.2.2.1 C.2.2.2 (cdB (prR t n W).2.2 false 0 0 ++ [(25, 0, 0)]) τ5) → C_X7_verdict_0 Z (e + 3) (τ6.wi 24 3 (τ2.i 24 3)) (yI K fun v12 τ10 => K (.inl (some (.int v12))) τ10) := by
    intro τ6 R6 f6 b6 w1 w2 w3
    have hB6 := hB5.hd f6
    refine cl_verdict (σ := τ6.wi 24 3 (τ2.i 24 3)) hB6.1 nn (b6.wi (by decide) (by decide)) ?_
    show K (.inl (some (.int (vdP R6)))) ((τ6.wi 24 3 (τ2.i 24 3)).wi 40 2 (vdR R6))
    rw [w1, w2]
    obtain ⟨⟨-, z2⟩, ⟨-, z4⟩, ⟨-, z6⟩, zn, y0, y1, y2, -⟩ := R3.1.2.2.1
    have l0 := (List.getElem?_eq_some_iff.mp z2).1
    have l1 := (List.getElem?_eq_some_iff.mp z4).1
    have l2' := (List.getElem?_eq_some_iff.mp z6).1
    have hl : 100 < τ3.sh.length := by rw [gs]; omega
    obtain ⟨p1, p2, p3, p4⟩ := pg
    obtain ⟨f1, f2, f3, f4⟩ := f6
    have ii : ∀ b j, b < τ3.sh.length → ¬ (b = 24 ∧ (j = 3 ∨ j = 4)) → ¬ (b = 40 ∧ (j = 2 ∨ (3 ≤ j ∧ j ≤ 6) ∨ j = 9)) → ¬ (b = 28 ∧ j = 3) → ¬ ((b = C.2.1 ∨ b = C.2.2.1 ∨ b = C.2.2.2) ∧ j ≤ 901) → ((τ6.wi 24 3 (τ2.i 24 3)).wi 40 2 (Int32.ofNat (prR t n W).2.1)).i b j = τ3.i b j := fun b j l q1 q2 q3 q4 => (wi_ne (by omega)).trans ((wi_ne (by omega)).trans ((f3 b j (by omega) (by omega)).trans (p3 b j l q1 (by omega) q3 q4)))
    have ll : ∀ b j, b < τ3.sh.length → ¬ ((b = 29 ∨ b = 30) ∧ 56 ≤ j) → ((τ6.wi 24 3 (τ2.i 24 3)).wi 40 2 (Int32.ofNat (prR t n W).2.1)).l b j = τ3.l b j := fun b j l q => (f4 b j q).trans (p4 b j l q)
    have te3 : TeF B B1 C C σ τ3 := (cr.te R.2.2.2.2.2.2.1.1 C).tr (TeF.sm gs gr (fun b j q => gi b j (by omega) (by omega)) (fun b j _ => by rw [gl]))
    have hB6' := hB6.hc
    have te6 : TeF B1 B1 C C τ3 ((τ6.wi 24 3 (τ2.i 24 3)).wi 40 2 (Int32.ofNat (prR t n W).2.1)) := ⟨⟨[], by rw [List.append_nil]; exact f1.trans p1⟩, fun b j l q _ => by show τ6.r b j = _; rw [f2]; exact p2 b j l q, fun b j l q q1 q2 q3 q4 q5 => ii b j l (by omega) (by omega) (by omega) (by omega), fun b j l q q1 q2 => ll b j l (by omega), ⟨Or.inl rfl, Or.inl rfl, Or.inl rfl, Or.inl rfl⟩, ⟨Or.inl rfl, Or.inl rfl, Or.inl rfl⟩, by show szS τ6.sh + _ + _ ≤ _; rw [f1, p1]; omega, by show 601 * τ6.sh.length + _ + _ ≤ _; rw [f1, p1]; omega⟩
    obtain ⟨x, hx, ex⟩ := b6.nv
    refine k _ ⟨B1, R3.mv hB6'.1 hB6'.2.1 hB6'.2.2.1 R3.1.2.2.2.1 hb1.1 m4.2 (fun b j q => ?_) (fun b j q => ll b j (by omega) (by omega)) (fun j q _ => ⟨ii _ j l0 (by omega) (by omega) (by omega) (by omega), ii _ j l1 (by omega) (by omega) (by omega) (by omega), ii _ j l2' (by omega) (by omega) (by omega) (by omega)⟩) ⟨x, hx, (wi_ne (by omega)).trans ((wi_ne (by omega)).trans ex)⟩, te3.tr te6, ?_, wi_eq, fun q => ?_⟩
    · by_cases z : b = 24 ∧ j = 3
      · rw [z.1, z.2]
        refine (wi_ne (by omega)).trans (wi_eq.trans ?_)
        rw [i2 24 3 (by omega), gi 24 3 (by omega) (by omega)]
      · unfold wlI at q
        exact ii b j (by omega) (by omega) (by omega) (by omega) (by omega)
    · exact (ii 1 16 (by omega) (by omega) (by omega) (by omega) (by omega)).trans ((gi 1 16 (by omega) (by omega)).trans (cr.2.2.1 1 16 (by omega) (by omega) (by have := R.1.2.1.2.2.2.2.2.1; omega) (by have := R.1.2.1.2.2.2.2.2.2.1; omega)))
    · obtain ⟨ln, c⟩ := w3 q
      refine ⟨ln, fun j x hj => ?_⟩
      obtain ⟨c1, c2, c3⟩ := c j x hj
      exact ⟨(wi_ne (by omega)).trans ((wi_ne (by omega)).trans ((f3 _ _ (by omega) (by omega)).trans c1)), (wi_ne (by omega)).trans ((wi_ne (by omega)).trans ((f3 _ _ (by omega) (by omega)).trans c2)), (wi_ne (by omega)).trans ((wi_ne (by omega)).trans ((f3 _ _ (by omega) (by omega)).trans c3))⟩
  have tb : ∀ p, tyS t n p ≤ 52 := fun p => ty_b
  refine h_sign hB5 b5 ?_
  show (Int32.ofNat (hsg t n (hbX t n (enW W.1 W.2.1 W.2.2.1 (-1)) [] (.inr (fiS t n, [])))) = Int32.ofNat 0 → _) ∧ (¬ Int32.ofNat (hsg t n (hbX t n (enW W.1 W.2.1 W.2.2.1 (-1)) [] (.inr (fiS t n, [])))) = Int32.ofNat 0 → _)
  unfold hbX hbd at b5 ⊢
  dsimp only at b5 ⊢
  cases hp : pX t n (enW W.1 W.2.1 W.2.2.1 (-1)) 12 false [] (fiS t n) 0 with
  | inl q =>
    rw [hp] at b5
    dsimp only at b5 ⊢
    have pr : prR t n W = ((q : Int), 1, .nil) := by
      unfold prR
      rw [hp]
    refine ⟨fun _ => fin τ5 _ (HdF.refl _) b5 (by rw [pr]; rfl) (by rw [pr]; rfl) (fun z => by rw [pr] at z; exact absurd z (by show ¬ (q : Int) = -1; omega)), fun z => absurd rfl z⟩
  | inr x =>
    obtain ⟨p', c', es', y⟩ := x
    rw [hp] at b5
    dsimp only at b5 ⊢
    rw [List.nil_append] at b5
    show (Int32.ofNat (tyS t n p') = Int32.ofNat 0 → _) ∧ (¬ Int32.ofNat (tyS t n p') = Int32.ofNat 0 → _)
    rw [oN_eq (by have := tb p'; omega) (by decide)]
    refine ⟨fun z => ?_, fun z => ?_⟩
    · cases hl : lsE es' with
      | none =>
        have pr : prR t n W = (-1, 0, y) := by
          unfold prR
          rw [hp]
          dsimp only
          rw [if_pos z, hl]
        refine fin τ5 _ (HdF.refl _) b5 ?_ ?_ (fun _ => ?_)
        · unfold vdP
          dsimp only
          rw [hl, pr]
          rfl
        · unfold vdR
          dsimp only
          rw [hl, pr]
          rfl
        · have e0 := lsE_nil hl
          subst e0
          rw [pr]
          exact cd5 _ _ _ _ rfl hp
      | some w =>
        have pr : prR t n W = ((w.1 : Int), w.2, .nil) := by
          unfold prR
          rw [hp]
          dsimp only
          rw [if_pos z, hl]
        refine fin τ5 _ (HdF.refl _) b5 ?_ ?_ (fun q => ?_)
        · unfold vdP
          dsimp only
          rw [hl, pr]
          rfl
        · unfold vdR
          dsimp only
          rw [hl, pr]
        · rw [pr] at q
          exact absurd q (by show ¬ (w.1 : Int) = -1; omega)
    · have pr : prR t n W = ((p' : Int), 1, .nil) := by
        unfold prR
        rw [hp]
        dsimp only
        rw [if_neg z]
      refine h_never hB5 b5 (fun τ6 f6 b6 => fin τ6 _ f6 b6 (by rw [pr]; rfl) (by rw [pr]; rfl) (fun q => by rw [pr] at q; exact absurd q (by show ¬ (p' : Int) = -1; omega)))
end PRG

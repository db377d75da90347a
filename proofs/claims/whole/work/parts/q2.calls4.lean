/-! THE CLASS: call, nearer -/
section CALLC
variable {Z : zT} {d : Nat} {B : Nat × Nat × Nat × Nat × Nat} {C V V' : Nat × Nat × Nat × Nat} {a u u' A m ver : Nat} {W W' : Wld} {pg pg' : Ast} {t t' : Nat → Int32} {n n' wy ch ch' fuel fuel' rs : Nat} {rn rn' : Option (Rs × Es)} {res res' : List Nat} {q q' : Nat} {σ τ υ : Sg} {K : kS} {E : Nat → Prop} {S : Es} {e1 e2 : String}
/-- after counting lists -/
theorem ClX.lp (h : ClX B C V a u A m ver W pg t n wy ch fuel rs rn res q σ) (L : LqS C W wy a V' u' τ) (g : LpF V V' σ τ) (ub' : u' + 18 * upN τ ≤ 500 * (q + 2)) : ClX B C V' a u' A m ver W pg t n wy ch fuel rs rn res (q + 1) τ := by
  have F := h.fx
  have hl := F.len
  obtain ⟨k1, ⟨w1, w2⟩, ⟨⟨S0, k3⟩, k4, k5⟩, ⟨ne, wh⟩, ⟨v1, v2⟩, dj, ⟨r8, m256, tx, h9⟩, ⟨c1, c2, c3, c4⟩, ⟨h40, r1, r2⟩, ub, rm⟩ := id h
  have F' := L.1.1.1
  have ne' := ne.lp k4 k3.1 F g
  obtain ⟨g1, -, g2, g3, g4, g5⟩ := g
  obtain ⟨-, -, -, -, s1, s2, s3, -⟩ := id k3.1
  obtain ⟨⟨s1', s1''⟩, ⟨s2', s2''⟩, ⟨s3', s3''⟩, -⟩ := id k3.1
  have lt : ∀ {b : Nat} {s : Sh}, σ.sh[b]? = some s → b < σ.sh.length := fun q => (List.getElem?_eq_some_iff.mp q).1
  have e : ∀ b, b < σ.sh.length → ((b < 56) ∨ (67 ≤ b ∧ b ≤ 101) ∨ (102 ≤ b ∧ b ≠ V.2.1 ∧ b ≠ V.2.2.1 ∧ b ≠ V.2.2.2)) → τ.i b = σ.i b ∧ τ.l b = σ.l b := fun b hb q => g1.2.2 b hb (fun z => by unfold seE at z; omega)
  have rr : ∀ b k, b < σ.sh.length → b ≠ 56 → τ.r b k = σ.r b k := fun b k hb q => g1.2.1 b k hb (by omega)
  have e0 := (e 0 (by omega) (by omega)).1
  have ne3 : ∀ {b : Nat} {x : Nat}, σ.sh[b]? = some (Sh.arr 2 x) → b ≠ V.2.1 ∧ b ≠ V.2.2.1 ∧ b ≠ V.2.2.2 := fun q => ⟨fun z => (by rw [z, s1''] at q; cases q), fun z => (by rw [z, s2''] at q; cases q), fun z => (by rw [z, s3''] at q; cases q)⟩
  have eA : τ.i A = σ.i A := (e A (lt tx.1) (by
    have := tx.2.2.2.2
    have := ne3 tx.1
    omega)).1
  have cs : ∀ b, b = C.2.1 ∨ b = C.2.2.1 ∨ b = C.2.2.2 → τ.i b = σ.i b := fun b q => by
    have z := k4.1 b q
    obtain ⟨-, -, -, -, p0, p1, p2, -⟩ := id k1.1.2.2.1
    exact (e b z.1 (by omega)).1
  have sa : SgA τ B.1 B.2.1 B.2.2.1 B.2.2.2.1 B.2.2.2.2 := by
    obtain ⟨⟨h1, h1'⟩, ⟨h2, h2'⟩, ⟨h3, h3'⟩, ⟨h4, h4'⟩, h5⟩ := k1.1.2.1
    exact ⟨⟨(rr 41 0 (by omega) (by omega)).trans h1, g1.sh h1'⟩, ⟨(rr 41 1 (by omega) (by omega)).trans h2, g1.sh h2'⟩, ⟨(rr 41 2 (by omega) (by omega)).trans h3, g1.sh h3'⟩, ⟨(rr 41 3 (by omega) (by omega)).trans h4, g1.sh h4'⟩, h5⟩
  obtain ⟨x3, hx3, ex3⟩ := k1.2.2.2.2.2.2.2
  have cap := k1.2.2.2.1.2.2.2.1
  have k1' : CRs B C W a τ := k1.mv F' sa (k1.1.2.2.1.gw g1.ga (by omega)) k1.1.2.2.2.1 k1.2.2.2.2.2.2.1.1 ⟨cap.2.1, cap.2.2⟩ (fun x j z => by unfold wlI at z; rw [(e x (by omega) (by omega)).1]) (fun x j z => by rw [(e x (by omega) (by omega)).2]) (fun j _ _ => by rw [cs _ (Or.inl rfl), cs _ (Or.inr (Or.inl rfl)), cs _ (Or.inr (Or.inr rfl))]; exact ⟨rfl, rfl, rfl⟩) ⟨x3, hx3, by rw [(e 28 (by omega) (by omega)).1]; exact ex3⟩
  have dj' : DjS B V' := by
    obtain ⟨⟨d1, d2⟩, d3, d4, d5, d6⟩ := dj.1
    obtain ⟨⟨-, h1'⟩, ⟨-, h2'⟩, ⟨-, h3'⟩, ⟨-, h4'⟩, -⟩ := k1.1.2.1
    have t1 := lt h1'
    have t2 := lt h2'
    have t3 := lt h3'
    have t4 := lt h4'
    clear k1 k1' rm ub ub' e rr
    exact ⟨⟨by omega, by omega⟩, by omega, by omega, by omega, by omega⟩
  have wh' : WhN W wy τ := by
    refine ⟨?_, wh.2.row (fun x z => e x (by omega) (by omega))⟩
    unfold WhS Rw0
    rw [(e 82 (by omega) (by omega)).2, (e 68 (by omega) (by omega)).1, (e 69 (by omega) (by omega)).1, (e 70 (by omega) (by omega)).1, (e 1 (by omega) (by omega)).1]
    exact wh.1
  refine ⟨k1', ⟨by rw [(e 1 (by omega) (by omega)).1]; exact w1, w2⟩, ⟨L.2.2.1, L.2.1, L.2.2.2⟩, ⟨ne', wh'⟩, ⟨by rw [(e 1 (by omega) (by omega)).1]; exact v1, by omega⟩, ⟨dj', dj.2.eq (sqA_g (rr 46 3 (by omega) (by omega)))⟩, ⟨(rr 0 8 (by omega) (by omega)).trans r8, ⟨m256.1, fun k hk => by rw [eA]; exact m256.2 k hk⟩, ⟨g1.sh tx.1, tx.2.1, fun k hk => by rw [eA]; exact tx.2.2.1 k hk, tx.2.2.2⟩, by rw [e0]; exact h9⟩, ⟨⟨by rw [e0]; exact c1.1, c1.2⟩, ⟨by rw [e0]; exact c2.1, c2.2⟩, by rw [e0]; exact c3, fun z => ⟨(c4 z).1, fun j q hq => ?_⟩⟩, ⟨by rw [(e 40 (by omega) (by omega)).1]; exact h40, r1.keep (e 83 (by omega) (by omega)).1 (e 83 (by omega) (by omega)).2 (by rw [(e 84 (by omega) (by omega)).1]) (e 96 (by omega) (by omega)).1 (e 97 (by omega) (by omega)).1, ?_⟩, ub', ?_⟩
  · rw [cs _ (Or.inl rfl), cs _ (Or.inr (Or.inl rfl)), cs _ (Or.inr (Or.inr rfl))]
    exact (c4 z).2 j q hq
  · unfold ResC
    rw [e0, (e 98 (by omega) (by omega)).1]
    exact r2
  · obtain ⟨q1, q2, q3⟩ := g2
    obtain ⟨m1, m2⟩ := rm
    rw [sdN_g (e 46 (by omega) (by omega)).1]
    clear k1 k1' ub ub' e rr
    exact ⟨by omega, by omega⟩
theorem orW_nd (W : Wld) (c : Nat) : ∀ i, 1 ≤ i → (orW W c i).2 = ndN W c (orW W c i).1 (plW W.2.1 c)
  | 0, h => absurd h (by omega)
  | i + 1, _ => by
    rw [orW]
    by_cases z : i = 0 ∨ ndN W c i (plW W.2.1 c) < (orW W c i).2
    · rw [if_pos z]
    · rw [if_neg z]
      exact orW_nd W c i (by omega)
/-- after judging -/
theorem RmH.sz (h : RmH B C V (m + sdN σ) q σ.sh) (g : SzH σ τ 0 0) : RmH B C V (m + sdN τ) (q + 1) τ.sh := by
  obtain ⟨m1, m2⟩ := h
  obtain ⟨q1, q2, q3, q4⟩ := g
  exact ⟨by omega, by omega⟩
theorem ClX.jd (h : ClX B C V a u A m ver W pg t n wy ch fuel rs rn res q σ) (g : JdF σ τ) (ne : NeS W τ) (wh : WhS W wy τ) : ClX B C V a u A m ver W pg t n wy ch fuel rs rn res (q + 1) τ := by
  have sq := h.2.2.2.1.1.sq
  have F := h.fx
  refine h.km g.1 g.2.1 (fun b _ z => ?_) ⟨ne, wh, h.2.2.2.1.2.2.row (fun x z => NhE.row g F sq (a := x) (by omega))⟩ (Nat.le_succ _) (h.2.2.2.2.2.2.2.2.2.2.sz g.2.2)
  rcases z with z | z
  · unfold neE at z
    omega
  · omega
theorem cc_call {c v : Int32} (h8 : 10 ≤ d) (hq : q ≤ 1000) (hW : PuW W) (h : ClA W pg t n wy ch fuel rs rn res q σ) (hK : CAns K (ClA W pg t n wy ch fuel rs rn res (q + 1)) xIo xIa (caA W wy c v)) : C_X12_call_0 Z (d + 1) σ c v K := by
  have h0 := h
  have hu := h.up
  obtain ⟨d, rfl⟩ : ∃ e, d = e + 8 := ⟨d - 8, by omega⟩
  obtain ⟨B, C, V, a, u, A, m, ver, h⟩ := h
  have F := h.fx
  have hj := hW.2.2.2.2
  have Q := h.qw hj
  have L := h.lq hj
  have ub := h.2.2.2.2.2.2.2.2.2.1
  obtain ⟨ne, wh⟩ := h.2.2.2.1
  obtain ⟨l1, l2, -⟩ := h.1.1.2.2.2.2.2.1
  unfold caA at hK
  refine T_X12_call_0 F (by omega) ⟨fun z => ?_, fun z => ⟨fun z2 => ?_, fun z2 => ?_⟩⟩
  · rw [i32_lt0] at z
    rw [if_pos (by omega)] at hK
    exact cc_1 h0 hK
  · rw [i32_lt0] at z
    rw [l1, (i32_le_k c W.2.1.length (by omega)).2] at z2
    rw [if_neg (by omega)] at hK
    have ec : c = Int32.ofNat c.toInt.toNat := i_oN (by omega)
    have hc : c.toInt.toNat < W.2.1.length := by omega
    generalize c.toInt.toNat = k at hK ec hc
    subst ec
    have hp := plW_ok hW.1.1.2.1 hc
    have fin : ∀ V' u' τ x, LqS C W wy a V' u' τ → LmF V V' u u' x σ τ → x ≤ 3 → ClA W pg t n wy ch fuel rs rn res (q + 1) τ := fun V' u' τ x L' g hx => ⟨B, C, V', a, u', A, m, ver, h.lp L' g.1 (by have := g.2; omega)⟩
    have fin2 : ∀ τ, JdF σ τ → NeS W τ → WhS W wy τ → ClA W pg t n wy ch fuel rs rn res (q + 1) τ := fun τ g n' w' => ⟨B, C, V, a, u, A, m, ver, h.jd g n' w'⟩
    have jd : ∀ p : Nat, p < 3 → ∀ vv : Int32, vv = Int32.ofNat (6 + p) → (∀ τ, ClA W pg t n wy ch fuel rs rn res (q + 1) τ → K (.inl (some (.int (Int32.ofInt (rwO W (plW W.2.1 k) (jdW W wy k).2 p))))) τ) → C_X10_judge_0 Z (d + 8) σ (Int32.ofNat k) (yI K fun v21 τ19 => ib (((Int32.ofNat k * (3 : Int32)) + vv) - (6 : Int32)) 72 ∧ (K (.inl (some (.int (τ19.i 70 ((((Int32.ofNat k * (3 : Int32)) + vv) - (6 : Int32)).toNatClampNeg))))) τ19)) := fun p hp' vv ev kk => by
      have ix : ((Int32.ofNat k * (3 : Int32)) + vv) - (6 : Int32) = Int32.ofNat (3 * k + p) := by
        rw [ev, show (3 : Int32) = Int32.ofNat 3 from rfl, show (6 : Int32) = Int32.ofNat 6 from rfl, oN_mul, oN_add, oN_sub (by omega), show k * 3 + (6 + p) - 6 = 3 * k + p by omega]
      refine cl_judge hW.tr hc Q ne wh.1 (fun τ g n' w' e68 => ?_)
      rw [ix]
      refine ⟨ib_oN (by omega) (by decide), ?_⟩
      rw [oN_t (by omega), (w'.2.1 k hc e68).2 p hp']
      exact kk τ (fin2 τ g n' w')
    refine ⟨fun y => ?_, fun y => ?_, fun y => ?_, fun y => ?_, fun y => ?_, fun y => ?_, fun y => ?_, fun y => ?_, fun y => ?_, fun y0 y1 y2 y3 y4 y5 y6 y7 y8 => ?_⟩
    · rw [if_pos y] at hK
      exact cl_methodsOf Q hc (hK σ hu)
    · rw [if_neg (by rw [y]; decide), if_pos y] at hK
      exact cl_lists L hc (by omega) (fun τ V' u' L' g => hK τ (fin V' u' τ 1 L' g (by decide)))
    · rw [if_neg (by rw [y]; decide), if_neg (by rw [y]; decide), if_pos y] at hK
      exact cl_cells Q hc (hK σ hu)
    · rw [if_neg (by rw [y]; decide), if_neg (by rw [y]; decide), if_neg (by rw [y]; decide), if_pos y] at hK
      exact cl_pressed L hc (by omega) (fun τ V' u' L' g => hK τ (fin V' u' τ 3 L' g (by decide)))
    · rw [if_neg (by rw [y]; decide), if_neg (by rw [y]; decide), if_neg (by rw [y]; decide), if_neg (by rw [y]; decide), if_pos y] at hK
      refine cl_nodes L hc (by omega) (fun τ V' u' L' g => ?_)
      have oc : 1 ≤ ocN (plW W.2.1 k) := by
        have : plW W.2.1 k = 1 ∨ plW W.2.1 k = 2 ∨ plW W.2.1 k = 3 := by omega
        rcases this with e | e | e <;> rw [e] <;> decide
      rw [orW_nd W k _ oc]
      exact hK τ (fin V' u' τ 0 L' g (by decide))
    · rw [if_neg (by rw [y]; decide), if_neg (by rw [y]; decide), if_neg (by rw [y]; decide), if_neg (by rw [y]; decide), if_neg (by rw [y]; decide), if_pos y] at hK
      exact cl_judge hW.tr hc Q ne wh.1 (fun τ g n' w' _ => hK τ (fin2 τ g n' w'))
    · rw [if_neg (by rw [y]; decide), if_neg (by rw [y]; decide), if_neg (by rw [y]; decide), if_neg (by rw [y]; decide), if_neg (by rw [y]; decide), if_neg (by rw [y]; decide), if_pos y] at hK
      exact jd 0 (by decide) v y hK
    · rw [if_neg (by rw [y]; decide), if_neg (by rw [y]; decide), if_neg (by rw [y]; decide), if_neg (by rw [y]; decide), if_neg (by rw [y]; decide), if_neg (by rw [y]; decide), if_neg (by rw [y]; decide), if_pos y] at hK
      exact jd 1 (by decide) v y hK
    · rw [if_neg (by rw [y]; decide), if_neg (by rw [y]; decide), if_neg (by rw [y]; decide), if_neg (by rw [y]; decide), if_neg (by rw [y]; decide), if_neg (by rw [y]; decide), if_neg (by rw [y]; decide), if_neg (by rw [y]; decide), if_pos y] at hK
      exact jd 2 (by decide) v y hK
    · rw [if_neg y0, if_neg y1, if_neg y2, if_neg y3, if_neg y4, if_neg y5, if_neg y6, if_neg y7, if_neg y8] at hK
      exact cc_2 h0 hK
  · rw [i32_lt0] at z
    rw [l1, (i32_le_k c W.2.1.length (by omega)).2] at z2
    rw [if_pos (by omega)] at hK
    exact cc_1 h0 hK
end CALLC

/-! THE CLASS: word, run -/
def CAnL (K : kS) (A : Sg → Prop) (e : String) (r : Nat ⊕ Int64) : Prop := match r with
  | .inl _ => ∀ τ x, A τ → K (.inr (e, x)) τ
  | .inr v => ∀ τ, A τ → K (.inl (some (.long v))) τ
theorem by_255 (y : Int32) : byB y &&& 255 = y &&& 255 := by
  have e : byB y = (Int32.toInt8 y).toInt32 := by
    show (Int32.toInt8 ((Int32.toInt8 y).toInt32)).toInt32 = _
    rw [Int8.toInt8_toInt32]
  rw [e]
  apply Int32.toBitVec_inj.mp
  rw [Int32.toBitVec_and, Int32.toBitVec_and, Int8.toBitVec_toInt32, Int32.toBitVec_toInt8]
  have k : ∀ i, i < 32 → (255 : Int32).toBitVec.getLsbD i = decide (i < 8) := by
    intro i hi
    have : ∀ i : Fin 32, (255 : Int32).toBitVec.getLsbD i.val = decide (i.val < 8) := by decide
    exact this ⟨i, hi⟩
  apply BitVec.eq_of_getLsbD_eq
  intro i hi
  rw [BitVec.getLsbD_and, BitVec.getLsbD_and, k i hi]
  by_cases z : i < 8
  · rw [BitVec.getLsbD_signExtend, if_pos z, BitVec.getLsbD_signExtend, if_pos (by omega)]
    simp [z]
    omega
  · simp [z]
section WORDC
variable {Z : zT} {d : Nat} {B : Nat × Nat × Nat × Nat × Nat} {C V V' : Nat × Nat × Nat × Nat} {a u u' A m ver : Nat} {W W' : Wld} {pg pg' : Ast} {t t' : Nat → Int32} {n n' wy ch ch' fuel fuel' rs : Nat} {rn rn' : Option (Rs × Es)} {res res' : List Nat} {q : Nat} {σ τ υ : Sg} {K : kS} {E : Nat → Prop} {S : Es} {e1 e2 : String}
theorem oN_and1 {k : Nat} (h : k < 2147483648) : Int32.ofNat k &&& 1 = Int32.ofNat (k % 2) := by
  apply Int32.toBitVec_inj.mp
  rw [Int32.toBitVec_and]
  show BitVec.ofNat 32 k &&& 1#32 = BitVec.ofNat 32 (k % 2)
  apply BitVec.eq_of_toNat_eq
  rw [BitVec.toNat_and, BitVec.toNat_ofNat, BitVec.toNat_ofNat (x := k % 2), Nat.mod_eq_of_lt (a := k) (by omega), Nat.mod_eq_of_lt (a := k % 2) (by omega)]
  show k &&& 1 = _
  rw [Nat.and_one_is_mod]
theorem cl_byteOf {k : Nat} (F : FX ΦC σ.sh σ.r) (hr : ResC res σ) (hk : k < 100000) (kk : K (.inl (some (.int (rbB res k)))) σ) : C_X12_byteOfResult_0 Z (d + 1) σ (Int32.ofNat k) K := by
  obtain ⟨r1, r2, r3⟩ := hr
  refine T_X12_byteOfResult_0 F ?_
  rw [oN_half (by omega), show Int32.ofNat (k / 2) < 0 ↔ k / 2 < 0 from oN_lt (b := 0) (by omega) (by decide), r1, oN_lt (by omega) (by omega), oN_and1 (by omega), show (0 : Int32) = Int32.ofNat 0 from rfl, oN_eq (by omega) (by decide), oN_t (by omega)]
  unfold rbB at kk
  refine ⟨fun z => absurd z (by omega), fun _ => ⟨fun z => ?_, fun z => ?_⟩⟩
  · have hx : res[k / 2]? = some res[k / 2] := List.getElem?_eq_getElem z
    rw [hx] at kk
    rw [r3 _ _ hx]
    refine ⟨fun z2 => ⟨ib_oN (by omega) (by decide), ?_⟩, fun z2 => ⟨ib_oN (by omega) (by decide), ?_⟩⟩
    · have kk : K (.inl (some (.int ((if k % 2 = 0 then byB (Int32.ofNat res[k / 2] >>> ((8 : Int32) &&& 31)) else byB (Int32.ofNat res[k / 2])) &&& 255)))) σ := kk
      rw [if_neg z2, by_255] at kk
      exact kk
    · have kk : K (.inl (some (.int ((if k % 2 = 0 then byB (Int32.ofNat res[k / 2] >>> ((8 : Int32) &&& 31)) else byB (Int32.ofNat res[k / 2])) &&& 255)))) σ := kk
      rw [if_pos z2, by_255] at kk
      exact kk
  · rw [List.getElem?_eq_none (by omega)] at kk
    exact kk
theorem cc_word {v : Int32} (h8 : 8 ≤ d) (h : ClA W pg t n wy ch fuel rs rn res q σ) (hK : CAnL K (ClA W pg t n wy ch fuel rs rn res (q + 1)) xIo (woA res v)) : C_X12_word_0 Z (d + 1) σ v K := by
  have h0 := h
  have hu := h.up
  obtain ⟨d, rfl⟩ : ∃ e, d = e + 1 := ⟨d - 1, by omega⟩
  obtain ⟨B, C, V, a, u, A, m, ver, h⟩ := h
  have F := h.fx
  have r2 := h.2.2.2.2.2.2.2.2.1.2.2
  have l512 := r2.2.1
  unfold woA at hK
  have lp : ∀ r k, k + r = 8 → 0 ≤ v.toInt → v.toInt < 2 * res.length → C_X12_word_27 Z (d + 1 + 1) σ v (wdF res v.toInt.toNat k) (Int32.ofNat (v.toInt.toNat + k)) K := by
    intro r
    induction r with
    | zero =>
      intro k hk z1 z2
      have hk8 : k = 8 := by omega
      subst hk8
      refine T_X12_word_27 F ⟨fun _ => ?_, fun z => absurd ?_ z⟩
      · rw [if_pos ⟨z1, z2⟩] at hK
        exact hK σ hu
      · rw [show v + 8 = Int32.ofNat (v.toInt.toNat + 8) from by rw [← oN_add, ← i_oN z1]; rfl]
        exact Int32.le_refl _
    | succ r ih =>
      intro k hk z1 z2
      refine T_X12_word_27 F ⟨fun z => absurd z ?_, fun _ => cl_byteOf F r2 (by omega) ?_⟩
      · rw [show v + 8 = Int32.ofNat (v.toInt.toNat + 8) from by rw [← oN_add, ← i_oN z1]; rfl, oN_le (by omega) (by omega)]
        omega
      · have := ih (k + 1) (by omega) z1 z2
        rw [wdF, ← Nat.add_assoc, ← oN_1] at this
        exact this
  refine T_X12_word_0 F h8 ⟨fun z => ?_, fun z => ⟨fun z2 => ?_, fun z2 => ?_⟩⟩
  · rw [i32_lt0] at z
    rw [if_neg (by omega)] at hK
    exact hK _ _ h0.al
  · rw [i32_lt0] at z
    rw [r2.1, oN_2, (i32_le_k v (2 * res.length) (by omega)).2] at z2
    have := lp 8 0 rfl (by omega) (by omega)
    rw [Nat.add_zero v.toInt.toNat, ← i_oN (show 0 ≤ v.toInt by omega)] at this
    exact this
  · rw [i32_lt0] at z
    rw [r2.1, oN_2, (i32_le_k v (2 * res.length) (by omega)).2] at z2
    rw [if_neg (by omega)] at hK
    exact hK _ _ h0.al
/-- run -/
theorem cc_run (h8 : 8 ≤ d) (hd : 10 ≤ d) (hq : q ≤ 1000) (hW : PuW W) (hpg : pg.isNil = false → PgW W pg ∧ sH pg ≤ 49) (h : ClA W pg t n wy ch fuel rs rn res q σ) (hK : CAns K (ClA W pg t n wy ch fuel rs (ruN W pg wy ch fuel rn) res (q + 1)) xIs xIs (ruA W pg wy ch fuel)) : C_X12_run_0 Z (d + 1) σ K := by
  have h0 := h
  obtain ⟨d, rfl⟩ : ∃ e, d = e + 9 := ⟨d - 9, by omega⟩
  obtain ⟨B, C, V, a, u, A, m, ver, h⟩ := h
  have F := h.fx
  have hl := F.len
  obtain ⟨k1, ⟨w1, w2⟩, ⟨⟨S0, k3⟩, k4, k5⟩, ⟨ne, wh⟩, ⟨v1, v2⟩, dj, ⟨r8, m256, tx, h9⟩, ⟨c1, c2, c3, c4⟩, ⟨h40, r1, r2⟩, ub, rm⟩ := id h
  unfold ruA ruN at hK
  refine T_X12_run_0 F (by omega) ?_
  rw [c3]
  cases hp : pg.isNil with
  | true =>
    rw [hp, if_pos rfl, if_pos rfl] at hK
    rw [if_pos rfl]
    exact ⟨fun z => absurd rfl z, fun _ => cc_1 h0 hK⟩
  | false =>
    rw [hp, if_neg (by decide), if_neg (by decide)] at hK
    rw [if_neg (by decide)]
    refine ⟨fun _ => ?_, fun z => absurd z (by decide)⟩
    obtain ⟨⟨p1, p2, p3⟩, p4⟩ := hpg hp
    obtain ⟨c5, c6⟩ := c4 hp
    rw [c1.1, c2.1]
    have B0 : MbS C W wy a ((σ.i 84 3).toNatClampNeg) (500 * (q + 1)) (σ.i C.2.1, σ.i C.2.2.1, σ.i C.2.2.2) V σ ∨ True := Or.inr trivial
    obtain ⟨ch0, ec⟩ := oN_ex (σ.i 84 3)
    have B1 : MbS C W wy a ch0 (500 * (q + 1)) (σ.i C.2.1, σ.i C.2.2.1, σ.i C.2.2.2) V σ := ⟨⟨u, h.lq hW.2.2.2.2, ub⟩, ⟨ne, wh.2⟩, k1.1.2.2.1, ⟨rfl, rfl, rfl⟩, ec⟩
    have cap := k1.2.2.2.1.2.2.2.1
    refine cl_perf hW.rc (by omega) (by omega) (by omega) p1 p4 B1 (by omega) (fun j q hq => ?_) (fun V' τ g B' R' => ?_)
    · rw [Nat.zero_add]
      have := c6 j q hq
      rw [Nat.zero_add] at this
      exact this
    · obtain ⟨⟨u', L', ub'⟩, ⟨ne', nt'⟩, ca', ⟨f0, f1, f2⟩, -⟩ := id B'
      have sq := ne.sq
      have djA := dj.2.2.2
      have F' := B'.fx
      obtain ⟨g1, g2, g3, g4, g5, g6⟩ := g
      obtain ⟨-, -, -, -, s1, s2, s3, -⟩ := id k3.1
      obtain ⟨⟨s1', s1''⟩, ⟨s2', s2''⟩, ⟨s3', s3''⟩, -⟩ := id k3.1
      have lt : ∀ {b : Nat} {s : Sh}, σ.sh[b]? = some s → b < σ.sh.length := fun q => (List.getElem?_eq_some_iff.mp q).1
      have e : ∀ b, b < σ.sh.length → ((b < 46) ∨ (67 ≤ b ∧ b ≤ 82) ∨ (98 ≤ b ∧ b ≤ 100) ∨ ((102 ≤ b ∧ b ≠ sqA σ) ∧ b ≠ V.2.1 ∧ b ≠ V.2.2.1 ∧ b ≠ V.2.2.2)) → τ.i b = σ.i b ∧ τ.l b = σ.l b := fun b hb q => g1.2.2 b hb (fun z => by unfold seE neE at z; omega)
      have rr : ∀ b k, b < σ.sh.length → b ≠ 56 ∧ b ≠ 46 → τ.r b k = σ.r b k := fun b k hb q => g1.2.1 b k hb (by omega)
      have e0 := (e 0 (by omega) (by omega)).1
      have eA : τ.i A = σ.i A := (e A (lt tx.1) (by
        have := tx.2.2.2.2
        have z1 : A ≠ V.2.1 := fun z => by
          have := tx.1
          rw [z, s1''] at this
          cases this
        have z2 : A ≠ V.2.2.1 := fun z => by
          have := tx.1
          rw [z, s2''] at this
          cases this
        have z3 : A ≠ V.2.2.2 := fun z => by
          have := tx.1
          rw [z, s3''] at this
          cases this
        have z4 : A ≠ 101 := fun z => by
          have := tx.1
          rw [z, F.s t0_101] at this
          cases this
        omega)).1
      have sa : SgA τ B.1 B.2.1 B.2.2.1 B.2.2.2.1 B.2.2.2.2 := by
        obtain ⟨⟨h1, h1'⟩, ⟨h2, h2'⟩, ⟨h3, h3'⟩, ⟨h4, h4'⟩, h5⟩ := k1.1.2.1
        exact ⟨⟨(rr 41 0 (by omega) (by omega)).trans h1, g1.sh h1'⟩, ⟨(rr 41 1 (by omega) (by omega)).trans h2, g1.sh h2'⟩, ⟨(rr 41 2 (by omega) (by omega)).trans h3, g1.sh h3'⟩, ⟨(rr 41 3 (by omega) (by omega)).trans h4, g1.sh h4'⟩, h5⟩
      obtain ⟨x3, hx3, ex3⟩ := k1.2.2.2.2.2.2.2
      have k1' : CRs B C W a τ := k1.mv F' sa ca' k1.1.2.2.2.1 k1.2.2.2.2.2.2.1.1 ⟨cap.2.1, cap.2.2⟩ (fun x j z => by unfold wlI at z; rw [(e x (by omega) (by omega)).1]) (fun x j z => by rw [(e x (by omega) (by omega)).2]) (fun j _ _ => by rw [f0, f1, f2]; exact ⟨rfl, rfl, rfl⟩) ⟨x3, hx3, by rw [(e 28 (by omega) (by omega)).1]; exact ex3⟩
      have dj' : DjS B V' := by
        obtain ⟨⟨d1, d2⟩, d3, d4, d5, d6⟩ := dj.1
        obtain ⟨⟨-, h1'⟩, ⟨-, h2'⟩, ⟨-, h3'⟩, ⟨-, h4'⟩, -⟩ := k1.1.2.1
        have t1 := lt h1'
        have t2 := lt h2'
        have t3 := lt h3'
        have t4 := lt h4'
        clear k1 k1' rm ub ub' e rr hpg hW hK c4 c6 B1 B' R' L' wh ne ne' nt' k5 m256 cap djA sq
        exact ⟨⟨by omega, by omega⟩, by omega, by omega, by omega, by omega⟩
      have dn' : DjN B C A τ := by
        obtain ⟨⟨-, h1'⟩, ⟨-, h2'⟩, ⟨-, h3'⟩, ⟨-, h4'⟩, -⟩ := k1.1.2.1
        obtain ⟨⟨-, y1⟩, ⟨-, y2⟩, ⟨-, y3⟩, -⟩ := k1.1.2.2.1
        exact dj.2.kn g6 ⟨lt h1', lt h2', lt h3', lt h4'⟩ ⟨lt y1, lt y2, lt y3⟩ (lt tx.1)
      have wh' : WhN W wy τ := by
        refine ⟨?_, nt'⟩
        unfold WhS Rw0
        rw [(e 82 (by omega) (by omega)).2, (e 68 (by omega) (by omega)).1, (e 69 (by omega) (by omega)).1, (e 70 (by omega) (by omega)).1, (e 1 (by omega) (by omega)).1]
        exact wh.1
      have hn : τ.i 83 11 = Int32.ofNat (hwR (rnP W wy ch fuel pg).1) := RnM.how (rn := some (rnP W wy ch fuel pg)) R'
      show K (.inl (some (.int (τ.i 83 11)))) τ
      rw [hn]
      refine hK τ ⟨B, C, V', a, u', A, m, ver, k1', ⟨by rw [(e 1 (by omega) (by omega)).1]; exact w1, w2⟩, ⟨L'.2.2.1, L'.2.1, L'.2.2.2⟩, ⟨ne', wh'⟩, ⟨by rw [(e 1 (by omega) (by omega)).1]; exact v1, by omega⟩, ⟨dj', dn'⟩, ⟨(rr 0 8 (by omega) (by omega)).trans r8, ⟨m256.1, fun k hk => by rw [eA]; exact m256.2 k hk⟩, ⟨g1.sh tx.1, tx.2.1, fun k hk => by rw [eA]; exact tx.2.2.1 k hk, tx.2.2.2⟩, by rw [e0]; exact h9⟩, ⟨⟨by rw [e0]; exact c1.1, c1.2⟩, ⟨by rw [e0]; exact c2.1, c2.2⟩, by rw [e0]; exact c3, fun _ => ⟨c5, fun j q hq => ?_⟩⟩, ⟨by rw [(e 40 (by omega) (by omega)).1]; exact h40, R', ?_⟩, by omega, ?_⟩
      · rw [f0, f1, f2]
        exact c6 j q hq
      · unfold ResC
        rw [e0, (e 98 (by omega) (by omega)).1]
        exact r2
      · obtain ⟨q1, q2, q3, q4⟩ := g2
        obtain ⟨m1, m2⟩ := rm
        exact ⟨by omega, by omega⟩
end WORDC

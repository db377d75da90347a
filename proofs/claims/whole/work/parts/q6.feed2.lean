/-! THE CLASS: feed -/
section FEEDC
variable {Z : zT} {d : Nat} {B : Nat × Nat × Nat × Nat × Nat} {C V V' : Nat × Nat × Nat × Nat} {a u u' A m ver a' : Nat} {W W' : Wld} {pg pg' : Ast} {t t' : Nat → Int32} {n n' wy ch ch' fuel fuel' rs : Nat} {rn rn' : Option (Rs × Es)} {res res' : List Nat} {q q' : Nat} {σ τ υ : Sg} {K : kS} {E : Nat → Prop} {S : Es} {e1 e2 : String}
theorem ush_8 (x : Int32) {s : Nat} (hs : s ≤ 24) : Int32.toInt8 ((Int32.toUInt32 x >>> (Int32.toUInt32 (Int32.ofNat s) &&& Int32.toUInt32 31)).toInt32) = Int32.toInt8 (x >>> (Int32.ofNat s &&& 31)) := by
  have e1 : (Int32.toUInt32 (Int32.ofNat s) &&& Int32.toUInt32 31) = UInt32.ofNat s := by
    have : ∀ s : Fin 25, (Int32.toUInt32 (Int32.ofNat s.val) &&& Int32.toUInt32 31) = UInt32.ofNat s.val := by decide
    exact this ⟨s, by omega⟩
  have e2 : (Int32.ofNat s &&& 31) = Int32.ofNat s := by
    have : ∀ s : Fin 25, (Int32.ofNat s.val &&& 31) = Int32.ofNat s.val := by decide
    exact this ⟨s, by omega⟩
  rw [e1, e2]
  apply Int8.toBitVec_inj.mp
  rw [Int32.toBitVec_toInt8, Int32.toBitVec_toInt8]
  have f1 : ((Int32.toUInt32 x >>> UInt32.ofNat s).toInt32).toBitVec = x.toBitVec >>> s := by
    show (Int32.toUInt32 x >>> UInt32.ofNat s).toBitVec = _
    rw [UInt32.toBitVec_shiftRight]
    have : ((UInt32.ofNat s).toBitVec % 32#32) = BitVec.ofNat 32 s := by
      have : ∀ s : Fin 25, ((UInt32.ofNat s.val).toBitVec % 32#32) = BitVec.ofNat 32 s.val := by decide
      exact this ⟨s, by omega⟩
    show (Int32.toUInt32 x).toBitVec >>> ((UInt32.ofNat s).toBitVec % 32#32) = _
    rw [this, BitVec.ushiftRight_eq', BitVec.toNat_ofNat, Nat.mod_eq_of_lt (by omega)]
    rfl
  have f2 : (x >>> Int32.ofNat s).toBitVec = x.toBitVec.sshiftRight s := by
    rw [Int32.toBitVec_shiftRight]
    have : ((Int32.ofNat s).toBitVec.smod 32) = BitVec.ofNat 32 s := by
      have : ∀ s : Fin 25, ((Int32.ofNat s.val).toBitVec.smod 32) = BitVec.ofNat 32 s.val := by decide
      exact this ⟨s, by omega⟩
    rw [this, BitVec.sshiftRight_eq', BitVec.toNat_ofNat, Nat.mod_eq_of_lt (by omega)]
  rw [f1, f2]
  apply BitVec.eq_of_getLsbD_eq
  intro i hi
  rw [BitVec.getLsbD_signExtend, BitVec.getLsbD_signExtend, if_pos (by omega), if_pos (by omega), BitVec.getLsbD_ushiftRight, BitVec.getLsbD_sshiftRight]
  have h1 : s + i < 32 := by omega
  have h2 : ¬ 32 ≤ i := by omega
  simp [h1, h2]
/-- bytes written on the tape at A, from lo to hi -/
def TpC (A lo hi : Nat) (f : Nat → Int32) (σ τ : Sg) : Prop := τ.sh = σ.sh ∧ τ.l = σ.l ∧ τ.r = σ.r ∧ (∀ b k, ¬ (b = A ∧ lo ≤ k ∧ k < hi) → ¬ (b = 0 ∧ k = 9) → τ.i b k = σ.i b k) ∧ (∀ k, lo ≤ k → k < hi → τ.i A k = f k) ∧ τ.i 0 9 = Int32.ofNat hi
theorem TpC.tr {lo mid hi : Nat} {f : Nat → Int32} (h : TpC A lo mid f σ τ) (g : TpC A mid hi f τ υ) (h1 : lo ≤ mid) (h2 : mid ≤ hi) (hA : A ≠ 0) : TpC A lo hi f σ υ := ⟨g.1.trans h.1, g.2.1.trans h.2.1, g.2.2.1.trans h.2.2.1, fun b k z z' => (g.2.2.2.1 b k (by omega) z').trans (h.2.2.2.1 b k (by omega) z'), fun k k1 k2 => by
  by_cases z : k < mid
  · exact (g.2.2.2.1 A k (by omega) (by omega)).trans (h.2.2.2.2.1 k k1 z)
  · exact g.2.2.2.2.1 k (by omega) k2, g.2.2.2.2.2⟩
theorem cl_put4 {v : Int32} {w : Nat} {f : Nat → Int32} (hA : A ≠ 0) (hr : σ.r 0 8 = Rf.ptr A) (hs : σ.sh[A]? = some (Sh.arr 2 m)) (hm : m ≤ 8192) (hw : w + 4 ≤ m) (hf : ∀ j, j < 4 → f (w + j) = fdB v j) (F : FX ΦC σ.sh σ.r) (h9 : σ.i 0 9 = Int32.ofNat w) (hK : ∀ τ, TpC A w (w + 4) f σ τ → K (.inl none) τ) : C_X12_putOnTape_0 Z (d + 1) σ v K := by
  have lp : ∀ r j τ, j + r = 4 → TpC A w (w + j) f σ τ → C_X12_putOnTape_3 Z (d + 1) τ v (Int32.ofNat 24 - Int32.ofNat (8 * j)) K := by
    intro r
    induction r with
    | zero =>
      intro j τ hj g
      have hj : j = 4 := by omega
      subst hj
      refine T_X12_putOnTape_3 (by rw [g.1, g.2.2.1]; exact F) ⟨fun _ => hK τ g, fun z => absurd (by decide) z⟩
    | succ r ih =>
      intro j τ hj g
      have es : Int32.ofNat 24 - Int32.ofNat (8 * j) = Int32.ofNat (24 - 8 * j) := oN_sub (by omega)
      refine T_X12_putOnTape_3 (by rw [g.1, g.2.2.1]; exact F) ?_
      rw [es, show Int32.ofNat (24 - 8 * j) < 0 ↔ 24 - 8 * j < 0 from oN_lt (b := 0) (by omega) (by decide), g.2.2.2.2.2, oN_t (by omega)]
      refine ⟨fun z => absurd z (by omega), fun _ => ⟨A, by rw [g.2.2.1]; exact hr, m, by rw [g.1]; exact hs, fun z => absurd z ?_, fun _ => ⟨A, by rw [g.2.2.1]; exact hr, m, by rw [g.1]; exact hs, ib_oN (by omega) (by omega), ?_⟩⟩⟩
      · rw [oN_le (by omega) (by omega)]
        omega
      · rw [ush_8 v (by omega)]
        have ev : vp_nar .byte ((Int32.toInt8 (v >>> (Int32.ofNat (24 - 8 * j) &&& 31))).toInt32) = f (w + j) := by
          rw [hf j (by omega)]
          unfold fdB byB
          rw [show (24 : Int32) - (8 : Int32) * Int32.ofNat j = Int32.ofNat (24 - 8 * j) from by
            rw [show (8 : Int32) = Int32.ofNat 8 from rfl, show (24 : Int32) = Int32.ofNat 24 from rfl, oN_mul, oN_sub (by omega)]]
        rw [ev, wi_ne (show ¬ (0 = A ∧ 9 = w + j) by omega), g.2.2.2.2.2, oN_1]
        have el : Int32.ofNat (24 - 8 * j) + (-8) = Int32.ofNat 24 - Int32.ofNat (8 * (j + 1)) := by
          have : ∀ j : Fin 4, Int32.ofNat (24 - 8 * j.val) + (-8) = Int32.ofNat 24 - Int32.ofNat (8 * (j.val + 1)) := by decide
          exact this ⟨j, by omega⟩
        rw [el]
        refine ih (j + 1) _ (by omega) ⟨g.1, g.2.1, g.2.2.1, fun b k z z' => ?_, fun k k1 k2 => ?_, ?_⟩
        · rw [wi_ne z', wi_ne (by omega)]
          exact g.2.2.2.1 b k (by omega) z'
        · rw [wi_ne (by omega)]
          by_cases z : k = w + j
          · rw [z, wi_at]
          · rw [wi_ne (by omega)]
            exact g.2.2.2.2.1 k k1 (by omega)
        · rw [wi_at]
          rfl
  refine T_X12_putOnTape_0 F ?_
  exact lp 4 0 σ rfl ⟨rfl, rfl, rfl, fun _ _ _ _ => rfl, fun k k1 k2 => by omega, h9⟩
theorem cl_put20 {x1 x2 x3 x4 x5 : Int32} {w : Nat} {f : Nat → Int32} (hA : A ≠ 0) (hr : σ.r 0 8 = Rf.ptr A) (hs : σ.sh[A]? = some (Sh.arr 2 m)) (hm : m ≤ 8192) (hw : w + 20 ≤ m) (hf : ∀ i, i < 5 → ∀ j, j < 4 → f (w + 4 * i + j) = fdB ([x1, x2, x3, x4, x5].getD i 0) j) (F : FX ΦC σ.sh σ.r) (h9 : σ.i 0 9 = Int32.ofNat w) (hK : ∀ τ, TpC A w (w + 20) f σ τ → K (.inl (some (.int (Int32.ofNat (w + 20))))) τ) : C_X12_feed_60 Z (d + 2) σ x1 x2 x3 x4 x5 K := by
  refine T_X12_feed_60 F ?_
  have st : ∀ {σ' : Sg} {τ' : Sg} {i : Nat}, TpC A w (w + 4 * i) f σ τ' → τ'.r 0 8 = Rf.ptr A ∧ τ'.sh[A]? = some (Sh.arr 2 m) ∧ FX ΦC τ'.sh τ'.r ∧ τ'.i 0 9 = Int32.ofNat (w + 4 * i) := fun g => ⟨by rw [g.2.2.1]; exact hr, by rw [g.1]; exact hs, by rw [g.1, g.2.2.1]; exact F, g.2.2.2.2.2⟩
  have g0 : TpC A w (w + 4 * 0) f σ σ := ⟨rfl, rfl, rfl, fun _ _ _ _ => rfl, fun k k1 k2 => by omega, h9⟩
  refine cl_put4 (w := w + 4 * 0) hA hr hs hm (by omega) (hf 0 (by decide)) F h9 (fun τ1 q1 => ?_)
  have g1 : TpC A w (w + 4 * 1) f σ τ1 := g0.tr q1 (by omega) (by omega) hA
  obtain ⟨a1, a2, a3, a4⟩ := st (σ' := σ) g1
  refine cl_put4 (w := w + 4 * 1) hA a1 a2 hm (by omega) (hf 1 (by decide)) a3 a4 (fun τ2 q2 => ?_)
  have g2 : TpC A w (w + 4 * 2) f σ τ2 := g1.tr q2 (by omega) (by omega) hA
  obtain ⟨a1, a2, a3, a4⟩ := st (σ' := σ) g2
  refine cl_put4 (w := w + 4 * 2) hA a1 a2 hm (by omega) (hf 2 (by decide)) a3 a4 (fun τ3 q3 => ?_)
  have g3 : TpC A w (w + 4 * 3) f σ τ3 := g2.tr q3 (by omega) (by omega) hA
  obtain ⟨a1, a2, a3, a4⟩ := st (σ' := σ) g3
  refine cl_put4 (w := w + 4 * 3) hA a1 a2 hm (by omega) (hf 3 (by decide)) a3 a4 (fun τ4 q4 => ?_)
  have g4 : TpC A w (w + 4 * 4) f σ τ4 := g3.tr q4 (by omega) (by omega) hA
  obtain ⟨a1, a2, a3, a4⟩ := st (σ' := σ) g4
  refine cl_put4 (w := w + 4 * 4) hA a1 a2 hm (by omega) (hf 4 (by decide)) a3 a4 (fun τ5 q5 => ?_)
  have g5 : TpC A w (w + 20) f σ τ5 := g4.tr q5 (by omega) (by omega) hA
  show K (.inl (some (.int (τ5.i 0 9)))) τ5
  rw [g5.2.2.2.2.2]
  exact hK τ5 g5
end FEEDC

/-! THE CLASS: how many methods, how many looks -/
theorem flt_ext {q : Nat → Bool} {n : Nat} (h : ∀ j, n ≤ j → q j = false) : ∀ m, n ≤ m → ((List.range m).filter q).length = ((List.range n).filter q).length
  | 0, hm => by rw [show n = 0 by omega]
  | m + 1, hm => by
    by_cases e : n = m + 1
    · rw [e]
    · rw [List.range_succ, List.filter_append, List.length_append, flt_ext h m (by omega), List.filter_cons_of_neg (by rw [h m (by omega)]; exact Bool.false_ne_true)]
      rfl
theorem th_eq {W : Wld} {c : Nat} (hl : W.2.2.2.length ≤ 120) {x : Int64 × Int64} (h : ∀ m, 1 ≤ m → m ≤ 128 → pb x m = mnS W c m) : pcN 64 (bL x.1) + pcN 64 (bL x.2) = thN W c := by
  have e1 : ∀ b, b < 64 → (bL x.1).testBit b = mnS W c (b + 1) := fun b hb => by
    rw [← h (b + 1) (by omega) (by omega)]
    unfold pb
    rw [if_pos (by omega), show (b + 1 - 1) % 64 = b by omega]
    rfl
  have e2 : ∀ b, b < 64 → (bL x.2).testBit b = mnS W c (64 + b + 1) := fun b hb => by
    rw [← h (64 + b + 1) (by omega) (by omega)]
    unfold pb
    rw [if_neg (by omega), show (64 + b + 1 - 1) % 64 = b by omega]
    rfl
  have s1 : pcN 64 (bL x.1) = ((List.range 64).filter fun j => mnS W c (j + 1)).length := by
    unfold pcN
    rw [List.filter_congr (fun b hb => e1 b (List.mem_range.mp hb))]
  have s2 : pcN 64 (bL x.2) = (((List.range 64).map (64 + ·)).filter fun j => mnS W c (j + 1)).length := by
    unfold pcN
    rw [List.filter_map, List.length_map, List.filter_congr (fun b hb => e2 b (List.mem_range.mp hb))]
    rfl
  have s3 : pcN 64 (bL x.1) + pcN 64 (bL x.2) = ((List.range 128).filter fun j => mnS W c (j + 1)).length := by
    rw [s1, s2, ← List.length_append, ← List.filter_append, ← List.range_add]
  rw [s3, flt_ext (n := W.2.2.2.length) (fun j hj => ?_) 128 (by omega)]
  · unfold thN
    rw [List.range_succ_eq_map, List.filter_cons_of_neg (by simp), List.filter_map, List.length_map]
    congr 1
    refine List.filter_congr (fun b hb => ?_)
    have hb := List.mem_range.mp hb
    show mnS W c (b + 1) = decide (1 ≤ b + 1 ∧ gnW W.2.2.2 (b + 1) = 0 ∧ mcW W.2.2.2 (b + 1) = c)
    unfold mnS
    rw [Bool.eq_iff_iff]
    simp only [Bool.and_eq_true, decide_eq_true_iff]
    constructor
    · rintro ⟨⟨-, a2⟩, a3⟩
      exact ⟨by omega, a2, a3⟩
    · rintro ⟨-, a2, a3⟩
      exact ⟨⟨by omega, a2⟩, a3⟩
  · unfold mnS
    rw [decide_eq_false (by omega)]
    rfl
section LOOKD
variable {Z : zT} {d A u : Nat} {σ σ0 τ υ : Sg} {K : kS} {C : Nat × Nat × Nat × Nat} {V V0 V' V2 : Nat × Nat × Nat × Nat} {W : Wld} {wy a0 j j' kA pl w c oo as' ch : Nat} {k k' : Nat → Nat} {S : List (Int64 × Int64)}
theorem cl_methodsOf (h : QwS C W wy a0 σ) (hc : c < W.2.1.length) (kk : K (.inl (some (.int (Int32.ofNat (thN W c))))) σ) : C_X11_methodsOf_0 Z (d + 2) σ (Int32.ofNat c) K := by
  obtain ⟨c24, ec, p1, p3⟩ := h.cx hc
  refine T_X11_methodsOf_0 h.1.1 ?_
  rw [oN_t (by omega)]
  refine ⟨ib_oN c24 (by decide), cl_bitL h.1.1 ⟨ib_oN c24 (by decide), cl_bitL h.1.1 ?_⟩⟩
  rw [← th_eq (x := (σ.l 34 c, σ.l 35 c)) h.1.2.2.2.2.1.2.1 (fun m m1 m2 => h.2.2.2.1.2.1 c c24 m m1 m2), ← oN_add] at kk
  exact kk
/-- looks in a tree, so far -/
def lkZ (W : Wld) (c oo : Nat) (k : Nat → Nat) : Nat → Nat
  | 0 => 1
  | j + 1 => lkZ W c oo k j + if mtZ W (opC oo j) (sZ W c oo (fun i => k (opC oo i)) j) = true then 1 else 0
theorem lk_link {o : Nat} (h1 : 1 ≤ plW W.2.1 c) (h3 : plW W.2.1 c ≤ 3) (ho : o < ocN (plW W.2.1 c)) (hk : ∀ p, p < plW W.2.1 c → k p ∈ mkW W.1) : ∀ n, n ≤ plW W.2.1 c → lkZ W c (ooM (plW W.2.1 c) o) k n = lkT W c o k n
  | 0, _ => rfl
  | n + 1, hn => by
    obtain ⟨o1, o2, o3⟩ := op_eq h1 h3 ho
    have ti : ∀ i, i < n → k (opC (ooM (plW W.2.1 c) o) i) ∈ mkW W.1 := fun i hi => hk _ (o2.1 i (by omega))
    rw [lkZ, lkT, lk_link h1 h3 ho hk n (by omega), mtZ_eq (t := fun i => k (opC (ooM (plW W.2.1 c) o) i)) (by omega) o2 o3 ti]
    have e : ((List.range 128).any fun j => bsZ W c (opP (plW W.2.1 c) o) (fun i => k (opC (ooM (plW W.2.1 c) o) i)) n (j + 1) && (vrS W c (opP (plW W.2.1 c) o n) (j + 1) && rsS W c o n (j + 1))) = lkM W c o k n := by
      unfold lkM
      congr 1
      funext j
      congr 1
      unfold bsZ lkS
      rw [Bool.eq_iff_iff]
      simp only [Bool.and_eq_true, List.all_eq_true, List.mem_range]
      constructor
      · rintro ⟨a1, a2⟩
        refine ⟨a1, fun i hi => ?_⟩
        have := a2 i hi
        rw [o3 i (by omega)] at this ⊢
        exact this
      · rintro ⟨a1, a2⟩
        refine ⟨a1, fun i hi => ?_⟩
        have := a2 i hi
        rw [o3 i (by omega)] at this ⊢
        exact this
    rw [e]
theorem lkZ_le (W : Wld) (c oo : Nat) (k : Nat → Nat) : ∀ n, lkZ W c oo k n ≤ n + 1
  | 0 => Nat.le_refl _
  | n + 1 => by
    have := lkZ_le W c oo k n
    rw [lkZ]
    split <;> omega
theorem cl_looksT (h : QwS C W wy a0 σ) (hc : c < W.2.1.length) (ka : KaS W kA (plW W.2.1 c) k σ) (hl : LvS W c σ) (hoo : oo < 6) (ho : ∀ n, n < plW W.2.1 c → opC oo n < plW W.2.1 c) (e62 : σ.i 62 c = Int32.ofNat (3 * oo)) (kk : K (.inl (some (.int (Int32.ofNat (lkZ W c oo k (plW W.2.1 c)))))) σ) : C_X3_looksInTree_0 Z (d + 2) σ (Int32.ofNat c) kA K := by
  obtain ⟨c24, ec, p1, p3⟩ := h.cx hc
  have lp : ∀ r n, n + r = plW W.2.1 c → C_X3_looksInTree_21 Z (d + 2) σ (Int32.ofNat c) kA (Int32.ofNat (lkZ W c oo k n)) (pcT σ c oo (fun i => k (opC oo i)) n).1 (pcT σ c oo (fun i => k (opC oo i)) n).2 (Int32.ofNat n) K := by
    intro r
    induction r with
    | zero =>
      intro n hn
      have en : n = plW W.2.1 c := by omega
      subst en
      refine T_X3_looksInTree_21 h.1.1 ?_
      rw [oN_t (by omega), ec]
      exact ⟨ib_oN c24 (by decide), fun _ => kk, fun z => absurd (Int32.le_refl _) z⟩
    | succ r ih =>
      intro n hn
      have ih := ih (n + 1) (by omega)
      have on := ho n (by omega)
      have ol := opC_lt (oo := oo) (n := n)
      obtain ⟨⟨nn, n3, hs⟩, hkk⟩ := ka
      obtain ⟨kp, kl⟩ := hkk _ on
      have l24 := h.1.2.1.2.1
      have lb := lkZ_le W c oo k n
      have g67 : ∀ l3, l3 = lkZ W c oo k (n + 1) → C_X3_looksInTree_67 Z (d + 2) σ (Int32.ofNat c) kA (Int32.ofNat l3) (pcT σ c oo (fun i => k (opC oo i)) n).1 (pcT σ c oo (fun i => k (opC oo i)) n).2 (Int32.ofNat n) (Int32.ofNat (opC oo n)) K := fun l3 e => by
        refine T_X3_looksInTree_67 h.1.1 ⟨nn, hs, ib_i (by rw [oN_i (by omega)]; omega) (by rw [oN_i (by omega)]; omega), ?_⟩
        rw [oN_t (by omega), kp, show (24 : Int32) = Int32.ofNat 24 from rfl, oN_mul, oN_add, oN_t (by omega), oN_1]
        refine ⟨ib_oN (by omega) (by decide), ib_i (by rw [oN_i (by omega)]; omega) (by rw [oN_i (by omega)]; omega), ib_oN (by omega) (by decide), ?_⟩
        rw [e]
        exact ih
      refine T_X3_looksInTree_21 h.1.1 ?_
      rw [oN_t (by omega), ec, oN_le (by omega) (by omega), e62, oN_add]
      refine ⟨ib_oN c24 (by decide), fun z => absurd z (by omega), fun _ => ⟨ib_oN c24 (by decide), Int32.ofNat (opC oo n), xJ_3 (by omega), ?_⟩⟩
      refine cl_matters (W := W) (x := pcT σ c oo (fun i => k (opC oo i)) n) (s := sZ W c oo (fun i => k (opC oo i)) n) h.1.1 c24 ol (fun m m1 m2 => hl.2 _ on m m1 m2) (fun m m1 m2 => pb_pc h hl n (fun i hi => (hkk _ (ho i (by omega))).2) m m1 m2) ?_
      by_cases q : mtZ W (opC oo n) (sZ W c oo (fun i => k (opC oo i)) n) = true
      · rw [if_pos q]
        refine ⟨fun z => absurd z (by decide), fun _ => ?_⟩
        rw [oN_1]
        exact g67 _ (by rw [lkZ, if_pos q])
      · rw [if_neg q]
        exact ⟨fun _ => g67 _ (by rw [lkZ, if_neg q]; rfl), fun z => absurd rfl z⟩
  refine T_X3_looksInTree_0 h.1.1 ?_
  rw [oN_t (by omega)]
  exact ⟨ib_oN c24 (by decide), ib_oN c24 (by decide), lp _ 0 (Nat.zero_add _)⟩
/-- how many looks a choice costs -/
theorem cl_looks (h : LqS C W wy a0 V u σ) (hc : c < W.2.1.length) (ka : KaS W kA (plW W.2.1 c) k σ) (hA : kA < 56 ∨ (66 < kA ∧ kA < 102)) (hk : ∀ p, p < plW W.2.1 c → k p ∈ mkW W.1) (hch : ch < 4) (hu : u + 18 * upN σ < 2147483648) (kk : ∀ τ V' u', LqS C W wy a0 V' u' τ → LmF V V' u u' 0 σ τ → K (.inl (some (.int (Int32.ofNat (loN W c ch k))))) τ) : C_X3_looksFor_0 Z (d + 6) σ (Int32.ofNat c) (Int32.ofNat ch) kA K := by
  obtain ⟨c24, ec, p1, p3⟩ := h.1.cx hc
  have eq : ∀ n, n < 4 → (Int32.ofNat ch = Int32.ofNat n ↔ ch = n) := fun n hn => oN_eq (by omega) (by omega)
  refine T_X3_looksFor_0 h.1.1.1 ?_
  rw [show Int32.ofNat ch = 0 ↔ ch = 0 from eq 0 (by omega), show Int32.ofNat ch = 1 ↔ ch = 1 from eq 1 (by omega), show Int32.ofNat ch = 2 ↔ ch = 2 from eq 2 (by omega)]
  have k0 := kk σ V u h ⟨LpF.refl _ _, Nat.le_refl _⟩
  unfold loN at k0 kk
  refine ⟨fun z => cl_methodsOf h.1 hc ?_, fun z => ?_, fun z => ?_, fun z0 z1 z2 => ?_⟩
  · rw [if_pos z] at k0
    exact k0
  · rw [if_neg (by omega), if_pos z] at k0
    exact k0
  · rw [if_neg (by omega), if_neg (by omega), if_pos z, ← oN_1] at k0
    rw [oN_t (by omega), ec]
    exact ⟨ib_oN c24 (by decide), k0⟩
  · rw [if_neg z0, if_neg z1, if_neg z2] at kk
    refine cl_plan h hc (by omega) (fun τ V1 u1 h1 f1 b1 e1 => ?_)
    obtain ⟨S, hS⟩ := h.2.2.1
    obtain ⟨lv, e62, -⟩ := h1.2.2.2.1 c hc e1
    have ol := op_link h1.1.1.2.1.2.1 p1 p3
    rw [ol] at e62
    have orl : orN W c < ocN (plW W.2.1 c) := orW_lt W c _ oc_b.1
    obtain ⟨o1, o2, o3⟩ := op_eq p1 p3 orl
    have ka1 : KaS W kA (plW W.2.1 c) k τ := by
      obtain ⟨⟨nn, n3, hs⟩, hkk⟩ := ka
      refine ⟨⟨nn, n3, f1.1.sh hs⟩, ?_⟩
      rw [(LpF.row hS.1 h.1.1.1 f1 hA).1]
      exact hkk
    refine cl_looksT h1.1 hc ka1 lv o1 o2.1 e62 ?_
    rw [lk_link p1 p3 orl hk _ (Nat.le_refl _)]
    exact kk τ V1 u1 h1 ⟨f1, by omega⟩
end LOOKD

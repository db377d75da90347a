/-! THE CLASS: tests read; conjunctions -/
section TS2
variable {Z : zT} {d : Nat} {t : Nat → Int32} {n N m : Nat} {B : Nat × Nat × Nat × Nat × Nat} {C : Nat × Nat × Nat × Nat} {W : Wld} {σ τ υ : Sg} {K : kS} {vs : List (List Int32)} {R : HR} {l2 l6 : Int32} {l3 A : Int64} {i : Int32}
/-- behind one part of a conjunction -/
def AfI (Z : zT) (d m : Nat) (l2 : Int32) (l3 : Int64) (l6 : Int32) (K : kS) (A : Int64) (i : Int32) (τ : Sg) : Prop := C_X7_sign_0 Z d τ (yI K fun v6 τ4 => (¬ v6 = 30 → ((0 : Int32) = 0 → C_X7_readTest_36 Z (d + 1) τ4 (Int32.ofNat m) l2 l3 l6 A 0 (i + 1) K) ∧ (¬ (0 : Int32) = 0 → C_X7_take_0 Z d τ4 30 (yN K fun τ7 => C_X7_readTest_36 Z (d + 1) τ7 (Int32.ofNat m) l2 l3 l6 A 0 (i + 1) K))) ∧ (v6 = 30 → ((1 : Int32) = 0 → C_X7_readTest_36 Z (d + 1) τ4 (Int32.ofNat m) l2 l3 l6 A 1 (i + 1) K) ∧ (¬ (1 : Int32) = 0 → C_X7_take_0 Z d τ4 30 (yN K fun τ9 => C_X7_readTest_36 Z (d + 1) τ9 (Int32.ofNat m) l2 l3 l6 A 1 (i + 1) K))))
theorem t36_0 (F : FX ΦC τ.sh τ.r) (h : C_X7_readTest_99 Z (d + 1) τ (Int32.ofNat m) l2 l3 l6 A K) : C_X7_readTest_36 Z (d + 1) τ (Int32.ofNat m) l2 l3 l6 A 0 i K := T_X7_readTest_36 F ⟨fun _ => h, fun _ => ⟨fun _ => h, fun z => absurd rfl z⟩⟩
theorem afI_no (hB : HB t n N B C W τ) (h : BdS t n N vs R τ) (z : ¬ hsg t n R = 30) (k : C_X7_readTest_99 Z (d + 2) τ (Int32.ofNat m) l2 l3 l6 A K) : AfI Z (d + 1) m l2 l3 l6 K A i τ := by
  have tb := hsg_b (t := t) (n := n) R
  refine h_sign hB h ?_
  show (¬ Int32.ofNat (hsg t n R) = Int32.ofNat 30 → _) ∧ (Int32.ofNat (hsg t n R) = Int32.ofNat 30 → _)
  rw [oN_eq (by omega) (by decide)]
  exact ⟨fun _ => ⟨fun _ => t36_0 hB.1 k, fun q => absurd rfl q⟩, fun q => absurd q z⟩
theorem afI_yes {p : Nat} {es : Evs} (hB : HB t n N B C W τ) (h : BdS t n N vs (.inr (p, es)) τ) (z : tyS t n p = 30) (k : ∀ τ', HdF τ τ' → BdS t n N vs (.inr (nxS t n p, es)) τ' → C_X7_readTest_36 Z (d + 2) τ' (Int32.ofNat m) l2 l3 l6 A 1 (i + 1) K) : AfI Z (d + 1) m l2 l3 l6 K A i τ := by
  refine h_sign hB h ?_
  show (¬ Int32.ofNat (tyS t n p) = Int32.ofNat 30 → _) ∧ (Int32.ofNat (tyS t n p) = Int32.ofNat 30 → _)
  rw [z]
  refine ⟨fun q => absurd rfl q, fun _ => ⟨fun q => absurd q (by decide), fun _ => h_take (y := 30) (by decide) hB h (fun τ' f b => k τ' f ?_)⟩⟩
  have e : htk t n 30 (.inr (p, es)) = .inr (nxS t n p, es) := if_pos z
  rw [e] at b
  exact b
theorem QS.hd {p p' c : Nat} {es : Evs} {lv : List Ast} (h : QS t n N m B C W vs p c es lv σ) (f : HdF σ τ) (b : BdS t n N vs (.inr (p', es)) τ) (hp : p ≤ p') : QS t n N m B C W vs p' c es lv τ := by
  obtain ⟨hB, -, T, e10, hcp, hcl, h6⟩ := h
  exact ⟨hB.hd f, b, T.td f.td, (f.2.2.1 40 10 (by omega) (by omega)).trans e10, by omega, hcl, fun z => by
    obtain ⟨e, e1, e2⟩ := h6 z
    exact ⟨e, e1, by omega⟩⟩
theorem nx_le {p : Nat} (h : 2 ≤ tyS t n p) : p < nxS t n p := nxS_gt (t := t) (ty_pos (t := t) (n := n) h)
/-- the parts of a conjunction, one after another -/
theorem in_lo {s : Pf} {es0 : Evs} {lv0 : List Ast} {σ0 : Sg} (hs : FolQ t n N m B C W vs s (fun σ K => C_X7_readOneOfTest_0 Z (d + 1) σ (Int32.ofNat m) (l2 + 1) K)) (he : Efv s) : ∀ f p c es x A j i τ, n + 1 - p ≤ f → QS t n N m B C W vs p c (es0 ++ es) (lv0 ++ lvT x) τ → TtF m σ0 τ → (es0 ++ es = [] → A = ttA x lv0.length ∧ (lvT x).length = lfN x) → τ.i 40 3 = Int32.ofNat i → i ≤ N → sgP t n i = p → j ≤ i → (∀ τ A q, pLo t n s 30 21 vs f p c es x = .inl q → TtF m σ0 τ → QD t n N m B C W vs q τ → C_X7_readTest_99 Z (d + 2) τ (Int32.ofNat m) l2 l3 l6 A K) → (∀ τ A p' c' es' x', pLo t n s 30 21 vs f p c es x = .inr (p', c', es', x') → TtF m σ0 τ → QS t n N m B C W vs p' c' (es0 ++ es') (lv0 ++ lvT x') τ → (es0 ++ es' = [] → A = ttA x' lv0.length ∧ (lvT x').length = lfN x') → p ≤ p' → C_X7_readTest_99 Z (d + 2) τ (Int32.ofNat m) l2 l3 l6 A K) → AfI Z (d + 1) m l2 l3 l6 K A (Int32.ofNat j) τ := by
  intro f
  induction f with
  | zero =>
    intro p c es x A j i τ hf Q g hA hi hiN hip hj kd kl
    have hp : p ≤ n := by
      rw [← hip]
      exact sgP_le t n i
    omega
  | succ f ih =>
    intro p c es x A j i τ hf Q g hA hi hiN hip hj kd kl
    have Q' := Q
    obtain ⟨hB, h, T, e10, hcp, hcl, h6⟩ := Q'
    by_cases z : tyS t n p = 30
    · have hx := nx_le (t := t) (n := n) (p := p) (by omega)
      rw [pLo, if_pos z] at kd kl
      refine afI_yes hB h z (fun τ1 f1 b1 => ?_)
      have Q1 := Q.hd f1 b1 (by omega)
      have hB1 := Q1.1
      have hB1' := hB1
      obtain ⟨fx, sa, ss, ⟨nn, hN1⟩, -⟩ := hB1'
      have hcc := sa.2.2.2.2.2.2.2.2.2
      obtain ⟨i1, i1N, i1e, -, i1p⟩ := b1.pos hB1
      have i1p := i1p _ _ rfl
      have lt := sg_idx (t := t) (n := n) (i := i) (i' := i1) (by omega)
      rw [oN_1]
      refine T_X7_readTest_36 fx ?_
      rw [ss.1, oN_le (by omega) (by omega)]
      refine ⟨fun q => absurd q (by omega), fun _ => ⟨fun q => absurd q (by decide), fun _ => ?_⟩⟩
      refine hs _ _ _ _ τ1 _ Q1 (fun τ2 v q e f2 D2 => ?_) (fun τ2 v p' c' es' y e f2 Q2 hv => ?_)
      · rw [e] at kd
        exact afI_no D2.1 D2.2.1 (by show ¬ 0 = 30; decide) (kd τ2 _ q rfl ((g.tr (f1.tt m)).tr f2) D2)
      · rw [e] at kd kl
        obtain ⟨g1, -⟩ := he _ _ _ _ _ _ _ e
        rw [List.append_assoc] at Q2
        have el : lv0 ++ lvT x ++ lvT y = lv0 ++ lvT (aN 21 0 0 x y .nil) := by
          rw [lvT_2, if_neg (by decide), List.append_assoc]
        rw [el] at Q2
        obtain ⟨i2, i2N, i2e, -, i2p⟩ := Q2.2.1.pos Q2.1
        have i2p := i2p _ _ rfl
        have lt2 := sg_idx (t := t) (n := n) (i := i1) (i' := i2) (by omega)
        refine ih p' c' _ _ (A &&& v) (j + 1) i2 τ2 (by omega) Q2 ((g.tr (f1.tt m)).tr f2) (fun zz => ?_) i2e i2N i2p (by omega) kd (fun τ A p' c' es' x' e f Q h hp => kl τ A p' c' es' x' e f Q h (by omega))
        rw [← List.append_assoc] at zz
        obtain ⟨z1, z2⟩ := List.append_eq_nil_iff.mp zz
        obtain ⟨a1, a2⟩ := hA z1
        obtain ⟨v1, v2⟩ := hv zz
        rw [lvT_2, if_neg (by decide), lfN_2, if_neg (by decide), ttA_2, if_neg (by decide), if_pos rfl, List.length_append, a2, v2, a1, v1, List.length_append, a2]
        exact ⟨rfl, rfl⟩
    · rw [pLo, if_neg z] at kd kl
      exact afI_no hB h z (kl τ A p c es x rfl g Q hA (Nat.le_refl _))
/-- a conjunction -/
theorem t_inner {s : Pf} (hs : FolQ t n N m B C W vs s (fun σ K => C_X7_readOneOfTest_0 Z (d + 1) σ (Int32.ofNat m) (l2 + 1) K)) (he : Efv s) {p c : Nat} {es : Evs} {lv : List Ast} (Q : QS t n N m B C W vs p c es lv σ) (kd : ∀ τ A q, pLs t n s 30 21 vs p c = .inl q → TtF m σ τ → QD t n N m B C W vs q τ → C_X7_readTest_99 Z (d + 2) τ (Int32.ofNat m) l2 l3 l6 A K) (kl : ∀ τ A p' c' es' x', pLs t n s 30 21 vs p c = .inr (p', c', es', x') → TtF m σ τ → QS t n N m B C W vs p' c' (es ++ es') (lv ++ lvT x') τ → (es ++ es' = [] → A = ttA x' lv.length ∧ (lvT x').length = lfN x') → p < p' → C_X7_readTest_99 Z (d + 2) τ (Int32.ofNat m) l2 l3 l6 A K) : C_X7_readTest_36 Z (d + 2) σ (Int32.ofNat m) l2 l3 l6 (-1) 1 0 K := by
  have hB := Q.1
  have hB' := hB
  obtain ⟨fx, sa, ss, ⟨nn, hN1⟩, -⟩ := hB'
  have hcc := sa.2.2.2.2.2.2.2.2.2
  obtain ⟨i, i1N, i1e, -, i1p⟩ := Q.2.1.pos hB
  have i1p := i1p _ _ rfl
  refine T_X7_readTest_36 fx ?_
  rw [ss.1, show (0 : Int32) = Int32.ofNat 0 from rfl, oN_le (by omega) (by decide)]
  refine ⟨fun q => absurd q (by omega), fun _ => ⟨fun q => absurd q (by decide), fun _ => ?_⟩⟩
  unfold pLs bnd at kd kl
  refine hs _ _ _ _ σ _ Q (fun τ2 v q e f2 D2 => ?_) (fun τ2 v p' c' es' y e f2 Q2 hv => ?_)
  · rw [e] at kd
    exact afI_no D2.1 D2.2.1 (by show ¬ 0 = 30; decide) (kd τ2 _ q rfl f2 D2)
  · rw [e] at kd kl
    dsimp only at kd kl
    obtain ⟨g1, -⟩ := he _ _ _ _ _ _ _ e
    obtain ⟨i2, i2N, i2e, -, i2p⟩ := Q2.2.1.pos Q2.1
    have i2p := i2p _ _ rfl
    have e1 : (-1 : Int64) &&& v = v := tb_ext fun b hb => by rw [tb_and, tb_m1 hb, Bool.true_and]
    show AfI Z (d + 1) m l2 l3 l6 K ((-1 : Int64) &&& v) (Int32.ofNat 0) τ2
    rw [e1]
    exact in_lo (σ0 := σ) hs he (n + 1 - p') p' c' es' y v 0 i2 τ2 (Nat.le_refl _) Q2 f2 hv i2e i2N i2p (Nat.zero_le _) kd (fun τ A p2 c2 es2 x2 e f Q h hp => kl τ A p2 c2 es2 x2 e f Q h (by omega))
end TS2

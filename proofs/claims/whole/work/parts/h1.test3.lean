/-! THE CLASS: tests read, whole -/
section TS3
variable {Z : zT} {d : Nat} {t : Nat → Int32} {n N m : Nat} {B : Nat × Nat × Nat × Nat × Nat} {C : Nat × Nat × Nat × Nat} {W : Wld} {σ τ υ : Sg} {K : kS} {vs : List (List Int32)} {R : HR} {l2 : Int32}
theorem t8_0 {l3 : Int64} {l6 : Int32} (F : FX ΦC τ.sh τ.r) (h : K (.inl (some (.long l3))) τ) : C_X7_readTest_8 Z (d + 1) τ (Int32.ofNat m) l2 l3 0 l6 K := T_X7_readTest_8 F ⟨fun _ => h, fun _ => ⟨fun _ => h, fun z => absurd rfl z⟩⟩
theorem t99_no {l3 l7 : Int64} {l6 : Int32} (hB : HB t n N B C W τ) (h : BdS t n N vs R τ) (z : ¬ hsg t n R = 31) (k : K (.inl (some (.long (l3 ||| l7)))) τ) : C_X7_readTest_99 Z (d + 2) τ (Int32.ofNat m) l2 l3 l6 l7 K := by
  have tb := hsg_b (t := t) (n := n) R
  refine T_X7_readTest_99 hB.1 (h_sign hB h ?_)
  show (¬ Int32.ofNat (hsg t n R) = Int32.ofNat 31 → _) ∧ (Int32.ofNat (hsg t n R) = Int32.ofNat 31 → _)
  rw [oN_eq (by omega) (by decide)]
  exact ⟨fun _ => ⟨fun _ => t8_0 hB.1 k, fun q => absurd rfl q⟩, fun q => absurd q z⟩
theorem out_lo {s : Pf} {es0 : Evs} {lv0 : List Ast} {σ0 : Sg} (hs : FolQ t n N m B C W vs s (fun σ K => C_X7_readOneOfTest_0 Z (d + 1) σ (Int32.ofNat m) (l2 + 1) K)) (he : Efv s) : ∀ f p c es x (l3 l7 : Int64) j i τ, n + 1 - p ≤ f → QS t n N m B C W vs p c (es0 ++ es) (lv0 ++ lvT x) τ → TtF m σ0 τ → (es0 ++ es = [] → l3 ||| l7 = ttA x lv0.length ∧ (lvT x).length = lfN x) → τ.i 40 3 = Int32.ofNat i → i ≤ N → sgP t n i = p → j ≤ i → (∀ τ v q, pLo t n (pLs t n s 30 21) 31 20 vs f p c es x = .inl q → TtF m σ0 τ → QD t n N m B C W vs q τ → K (.inl (some (.long v))) τ) → (∀ τ v p' c' es' x', pLo t n (pLs t n s 30 21) 31 20 vs f p c es x = .inr (p', c', es', x') → TtF m σ0 τ → QS t n N m B C W vs p' c' (es0 ++ es') (lv0 ++ lvT x') τ → (es0 ++ es' = [] → v = ttA x' lv0.length ∧ (lvT x').length = lfN x') → K (.inl (some (.long v))) τ) → C_X7_readTest_99 Z (d + 2) τ (Int32.ofNat m) l2 l3 (Int32.ofNat j) l7 K := by
  intro f
  induction f with
  | zero =>
    intro p c es x l3 l7 j i τ hf Q g hA hi hiN hip hj kd kl
    have hp : p ≤ n := by
      rw [← hip]
      exact sgP_le t n i
    omega
  | succ f ih =>
    intro p c es x l3 l7 j i τ hf Q g hA hi hiN hip hj kd kl
    have Q' := Q
    obtain ⟨hB, h, T, e10, hcp, hcl, h6⟩ := Q'
    by_cases z : tyS t n p = 31
    · have hx := nx_le (t := t) (n := n) (p := p) (by omega)
      rw [pLo, if_pos z] at kd kl
      refine T_X7_readTest_99 hB.1 (h_sign hB h ?_)
      show (¬ Int32.ofNat (tyS t n p) = Int32.ofNat 31 → _) ∧ (Int32.ofNat (tyS t n p) = Int32.ofNat 31 → _)
      rw [z]
      refine ⟨fun q => absurd rfl q, fun _ => ⟨fun q => absurd q (by decide), fun _ => h_take (y := 31) (by decide) hB h (fun τ1 f1 b1 => ?_)⟩⟩
      have e1 : htk t n 31 (.inr (p, es0 ++ es)) = .inr (nxS t n p, es0 ++ es) := if_pos z
      rw [e1] at b1
      have Q1 := Q.hd f1 b1 (by omega)
      have hB1 := Q1.1
      have hB1' := hB1
      obtain ⟨fx, sa, ss, ⟨nn, hN1⟩, -⟩ := hB1'
      have hcc := sa.2.2.2.2.2.2.2.2.2
      obtain ⟨i1, i1N, i1e, -, i1p⟩ := b1.pos hB1
      have i1p := i1p _ _ rfl
      have lt := sg_idx (t := t) (n := n) (i := i) (i' := i1) (by omega)
      show C_X7_readTest_8 Z (d + 2) τ1 (Int32.ofNat m) l2 (l3 ||| l7) 1 (Int32.ofNat j + 1) K
      rw [oN_1]
      refine T_X7_readTest_8 fx ?_
      rw [ss.1, oN_le (by omega) (by omega)]
      refine ⟨fun q => absurd q (by omega), fun _ => ⟨fun q => absurd q (by decide), fun _ => ?_⟩⟩
      refine t_inner hs he Q1 (fun τ2 A q e f2 D2 => ?_) (fun τ2 A p' c' es' y e f2 Q2 hv hp => ?_)
      · rw [e] at kd
        exact t99_no D2.1 D2.2.1 (by show ¬ 0 = 31; decide) (kd τ2 _ q rfl ((g.tr (f1.tt m)).tr f2) D2)
      · rw [e] at kd kl
        rw [List.append_assoc] at Q2
        have el : lv0 ++ lvT x ++ lvT y = lv0 ++ lvT (aN 20 0 0 x y .nil) := by
          rw [lvT_2, if_neg (by decide), List.append_assoc]
        rw [el] at Q2
        obtain ⟨i2, i2N, i2e, -, i2p⟩ := Q2.2.1.pos Q2.1
        have i2p := i2p _ _ rfl
        have lt2 := sg_idx (t := t) (n := n) (i := i1) (i' := i2) (by omega)
        refine ih p' c' _ _ (l3 ||| l7) A (j + 1) i2 τ2 (by omega) Q2 ((g.tr (f1.tt m)).tr f2) (fun zz => ?_) i2e i2N i2p (by omega) kd kl
        rw [← List.append_assoc] at zz
        obtain ⟨z1, z2⟩ := List.append_eq_nil_iff.mp zz
        obtain ⟨a1, a2⟩ := hA z1
        obtain ⟨v1, v2⟩ := hv zz
        rw [lvT_2, if_neg (by decide), lfN_2, if_neg (by decide), ttA_2, if_pos rfl, List.length_append, a2, v2, a1, v1, List.length_append, a2]
        exact ⟨rfl, rfl⟩
    · rw [pLo, if_neg z] at kd kl
      exact t99_no hB h z (kl τ _ p c es x rfl g Q hA)
/-- conjunctions joined by or -/
theorem fol_tt {s : Pf} (hs : FolQ t n N m B C W vs s (fun σ K => C_X7_readOneOfTest_0 Z (d + 1) σ (Int32.ofNat m) (l2 + 1) K)) (he : Efv s) : FolQ t n N m B C W vs (pTt t n s) (fun σ K => C_X7_readTest_0 Z (d + 2) σ (Int32.ofNat m) l2 K) := by
  intro p c es lv σ K Q kd kl
  have hB := Q.1
  have hB' := hB
  obtain ⟨fx, sa, ss, ⟨nn, hN1⟩, -⟩ := hB'
  have hcc := sa.2.2.2.2.2.2.2.2.2
  have ep : ∀ y, pLs t n s 30 21 vs p c = y → pTt t n s vs p c = bnd y fun p1 k1 es x => pLo t n (pLs t n s 30 21) 31 20 vs (n + 1 - p1) p1 k1 es x := fun y hy => by
    unfold pTt
    rw [pLs, hy]
  refine T_X7_readTest_0 fx (T_X7_readTest_8 fx ?_)
  rw [ss.1, show (0 : Int32) = Int32.ofNat 0 from rfl, oN_le (by omega) (by decide)]
  refine ⟨fun q => absurd q (by omega), fun _ => ⟨fun q => absurd q (by decide), fun _ => ?_⟩⟩
  refine t_inner hs he Q (fun τ2 A q e f2 D2 => ?_) (fun τ2 A p' c' es' y e f2 Q2 hv hp => ?_)
  · exact t99_no D2.1 D2.2.1 (by show ¬ 0 = 31; decide) (kd τ2 _ q (ep _ e) f2 D2)
  · rw [ep _ e] at kd kl
    unfold bnd at kd kl
    dsimp only at kd kl
    obtain ⟨i2, i2N, i2e, -, i2p⟩ := Q2.2.1.pos Q2.1
    have i2p := i2p _ _ rfl
    have e1 : (0 : Int64) ||| A = A := tb_ext fun b hb => by rw [tb_or, tb_0, Bool.false_or]
    exact out_lo (σ0 := σ) hs he (n + 1 - p') p' c' es' y 0 A 0 i2 τ2 (Nat.le_refl _) Q2 f2 (by rw [e1]; exact hv) i2e i2N i2p (Nat.zero_le _) kd kl
theorem fol_ts {w : Int} (hm : m < 122) (hv : vs.length ≤ 16) (hj : ∀ nm ∈ vs, nm ≠ []) (hC : C.2.1 = 25 ∨ 102 ≤ C.2.1) : ∀ r o d, o + r = 13 → 2 * r + 6 ≤ d → FolQ t n N m B C W vs (pTs t n (enW W.1 W.2.1 W.2.2.1 w) r) (fun σ K => C_X7_readOneOfTest_0 Z d σ (Int32.ofNat m) (Int32.ofNat o) K) := by
  intro r
  induction r with
  | zero =>
    intro o d ho hd p c es lv σ K Q kd kl
    obtain ⟨e, rfl⟩ : ∃ e, d = e + 2 := ⟨d - 2, by omega⟩
    refine T_X7_readOneOfTest_0 Q.1.1 ?_
    rw [show (12 : Int32) = Int32.ofNat 12 from rfl, oN_le (by omega) (by decide)]
    refine ⟨fun z => absurd z (by omega), fun _ => h_never Q.1 Q.2.1 (fun τ f b => kd τ 0 p rfl (f.tt m) ⟨Q.1.hd f, b, _, _, Q.2.2.1.td f.td⟩)⟩
  | succ r ih =>
    intro o d ho hd p c es lv σ K Q kd kl
    obtain ⟨e, rfl⟩ : ∃ e, d = e + 5 := ⟨d - 5, by omega⟩
    have tb : tyS t n p ≤ 52 := ty_b
    have hB := Q.1
    rw [pTs] at kd kl
    dsimp only at kd kl
    refine T_X7_readOneOfTest_0 hB.1 ?_
    rw [show (12 : Int32) = Int32.ofNat 12 from rfl, oN_le (by omega) (by decide)]
    refine ⟨fun _ => h_sign hB Q.2.1 ?_, fun z => absurd (by omega) z⟩
    show (¬ Int32.ofNat (tyS t n p) = Int32.ofNat 32 → _) ∧ (Int32.ofNat (tyS t n p) = Int32.ofNat 32 → _)
    rw [oN_eq (by omega) (by decide)]
    refine ⟨fun z => h_sign hB Q.2.1 ?_, fun z => ?_⟩
    · rw [if_neg z] at kd kl
      show (¬ Int32.ofNat (tyS t n p) = Int32.ofNat 4 → _) ∧ (Int32.ofNat (tyS t n p) = Int32.ofNat 4 → _)
      rw [oN_eq (by omega) (by decide)]
      refine ⟨fun y => ?_, fun y => ?_⟩
      · rw [if_neg y] at kd kl
        exact fol_cm (w := w) hm hv hj hC p c es lv σ K Q kd kl
      · rw [if_pos y] at kd kl
        have hx := nx_le (t := t) (n := n) (p := p) (by omega)
        refine h_take (y := 4) (by decide) hB Q.2.1 (fun τ1 f1 b1 => ?_)
        have e1 : htk t n 4 (.inr (p, es)) = .inr (nxS t n p, es) := if_pos y
        rw [e1] at b1
        have Q1 := Q.hd f1 b1 (by omega)
        have hs := ih (o + 1) (e + 3) (by omega) (by omega)
        rw [← oN_1] at hs
        refine fol_tt (d := e + 2) hs (ev_ts r) _ _ _ _ τ1 _ Q1 (fun τ2 v q e f2 D2 => ?_) (fun τ2 v p' c' es' x e f2 Q2 hv => ?_)
        · rw [e] at kd
          exact h_take (y := 5) (by decide) D2.1 D2.2.1 (fun τ3 f3 b3 => kd τ3 v q rfl (((f1.tt m).tr f2).tr (f3.tt m)) ⟨D2.1.hd f3, b3, by
            obtain ⟨es, lv, T⟩ := D2.2.2
            exact ⟨es, lv, T.td f3.td⟩⟩)
        · rw [e] at kd kl
          unfold bnd at kd kl
          dsimp only at kd kl
          refine h_take (y := 5) (by decide) Q2.1 Q2.2.1 (fun τ3 f3 b3 => ?_)
          by_cases y5 : tyS t n p' = 5
          · rw [if_pos y5] at kl
            have hx2 := nx_le (t := t) (n := n) (p := p') (by omega)
            have e3 : ∀ x, htk t n 5 (.inr (p', x)) = .inr (nxS t n p', x) := fun x => if_pos y5
            rw [e3] at b3
            exact kl τ3 v _ _ _ _ rfl (((f1.tt m).tr f2).tr (f3.tt m)) (Q2.hd f3 b3 (by omega)) hv
          · rw [if_neg y5] at kd
            have e3 : ∀ x, htk t n 5 (.inr (p', x)) = .inl p' := fun x => if_neg y5
            rw [e3] at b3
            exact kd τ3 v _ rfl (((f1.tt m).tr f2).tr (f3.tt m)) ⟨Q2.1.hd f3, b3, _, _, Q2.2.2.1.td f3.td⟩
    · rw [if_pos z] at kd kl
      have hx := nx_le (t := t) (n := n) (p := p) (by omega)
      refine h_take (y := 32) (by decide) hB Q.2.1 (fun τ1 f1 b1 => ?_)
      have e1 : htk t n 32 (.inr (p, es)) = .inr (nxS t n p, es) := if_pos z
      rw [e1] at b1
      have Q1 := Q.hd f1 b1 (by omega)
      show C_X7_readOneOfTest_0 Z (e + 4) τ1 (Int32.ofNat m) (Int32.ofNat o + 1) _
      rw [oN_1]
      refine ih (o + 1) (e + 4) (by omega) (by omega) _ _ _ _ τ1 _ Q1 (fun τ2 v q e f2 D2 => ?_) (fun τ2 v p' c' es' x e f2 Q2 hv => ?_)
      · rw [e] at kd
        exact kd τ2 _ q rfl ((f1.tt m).tr f2) D2
      · rw [e] at kl
        refine kl τ2 _ _ _ _ _ rfl ((f1.tt m).tr f2) ?_ (fun zz => ?_)
        · have el : lvT (aN 22 0 0 x .nil .nil) = lvT x := by
            rw [lvT_2, if_neg (by decide)]
            exact List.append_nil _
          rw [el]
          exact Q2
        · obtain ⟨v1, v2⟩ := hv zz
          rw [ttA_2, if_neg (by decide), if_neg (by decide), if_pos rfl, lvT_2, if_neg (by decide), lfN_2, if_neg (by decide), v1, List.length_append, v2]
          exact ⟨rfl, rfl⟩
end TS3

/-! THE CLASS: the stock, whole -/
section ST4
variable {Z : zT} {d : Nat} {C : Nat × Nat × Nat × Nat} {W : Wld} {σ τ υ : Sg} {K : kS} {a0 : Nat}
/-- the makeable kinds among the first -/
def mkP (ks : List Knd) (j : Nat) : List Nat := (List.range j).filter fun k => !(((ks[k]?).map (·.2.1)).getD false)
theorem mkP_s (ks : List Knd) (j : Nat) : mkP ks (j + 1) = mkP ks j ++ if ((ks[j]?).map (·.2.1)).getD false = true then [] else [j] := by
  unfold mkP
  rw [List.range_succ, List.filter_append]
  congr 1
  cases h : ((ks[j]?).map (·.2.1)).getD false with
  | true => simp [h]
  | false => simp [h]
theorem mkP_len (ks : List Knd) (j : Nat) : (mkP ks j).length ≤ j := by
  unfold mkP
  exact Nat.le_trans (List.length_filter_le _ _) (by rw [List.length_range]; exact Nat.le_refl _)
theorem cl_stock (S : SkR C W a0 σ) (kk : ∀ τ, SkF σ τ → StS W τ → τ.i 1 16 = σ.i 1 16 + 1 → K (.inl none) τ) : C_X11_takeStock_0 Z (d + 3) σ K := by
  have l24 := S.2.1.2.1
  have go : ∀ r j τ, W.1.length - j = r → j ≤ W.1.length → SkF σ τ → τ.i 1 16 = σ.i 1 16 + 1 → τ.i 1 14 = Int32.ofNat (mkP W.1 j).length → (∀ (i : Nat) k, (mkP W.1 j)[i]? = some k → τ.i 38 i = Int32.ofNat k) → C_X11_takeStock_17 Z (d + 3) τ (Int32.ofNat j) K := by
    intro r
    induction r with
    | zero =>
      intro j τ hr hj g g16 h14 h38
      have ej : j = W.1.length := by omega
      subst ej
      have S1 := S.sk g
      refine T_X11_takeStock_17 S1.1 ?_
      rw [S1.2.1.1, oN_le (by omega) (by omega)]
      refine ⟨fun _ => ?_, fun z => absurd (Nat.le_refl _) z⟩
      refine cl_fillL (n2 := 24) S1.1 (S1.1.s (a := 34) rfl) (by decide) (fun τ1 a1 a2 a3 a4 a5 => ?_)
      have g1 : SkF σ τ1 := g.tr ⟨a1, a3, fun a j _ _ => by rw [a2], fun a j q => by rw [a4 a (by omega)]⟩
      have S2 := S.sk g1
      refine cl_fillL (n2 := 24) S2.1 (S2.1.s (a := 35) rfl) (by decide) (fun τ2 b1 b2 b3 b4 b5 => ?_)
      have g2 : SkF σ τ2 := g1.tr ⟨b1, b3, fun a j _ _ => by rw [b2], fun a j q => by rw [b4 a (by omega)]⟩
      have S3 := S.sk g2
      refine cl_fillL (n2 := 72) S3.1 (S3.1.s (a := 36) rfl) (by decide) (fun τ3 c1 c2 c3 c4 c5 => ?_)
      have g3 : SkF σ τ3 := g2.tr ⟨c1, c3, fun a j _ _ => by rw [c2], fun a j q => by rw [c4 a (by omega)]⟩
      have S4 := S.sk g3
      refine cl_fillL (n2 := 72) S4.1 (S4.1.s (a := 37) rfl) (by decide) (fun τ4 d1 d2 d3 d4 d5 => ?_)
      have g4 : SkF σ τ4 := g3.tr ⟨d1, d3, fun a j _ _ => by rw [d2], fun a j q => by rw [d4 a (by omega)]⟩
      have S5 := S.sk g4
      have ii : τ4.i = τ.i := d2.trans (c2.trans (b2.trans a2))
      have z34 : ∀ c, c < 24 → τ4.l 34 c = 0 := fun c q => by
        rw [d4 34 (by decide), c4 34 (by decide), b4 34 (by decide)]
        exact a5 c q
      have z35 : ∀ c, c < 24 → τ4.l 35 c = 0 := fun c q => by
        rw [d4 35 (by decide), c4 35 (by decide)]
        exact b5 c q
      have z36 : ∀ c, c < 72 → τ4.l 36 c = 0 := fun c q => by
        rw [d4 36 (by decide)]
        exact c5 c q
      refine st_99 (σ := τ4) S5 (fun τ5 g5 e5 hG hF => kk τ5 (g4.tr g5) ⟨⟨?_, fun i k hk => ?_⟩, hG, hF⟩ ?_) _ 1 τ4 rfl (Nat.le_refl _) (by omega) (SkF.refl _) rfl (fun c q1 m q2 q3 => ?_) (fun p k q1 q2 m q3 q4 => ?_)
      · rw [e5, ii]
        exact h14
      · rw [e5, ii]
        exact h38 i k hk
      · rw [e5, ii]
        exact g16
      · rw [z34 c q1, z35 c q1]
        dsimp only
        rw [decide_eq_false (show ¬ m < 1 by omega), Bool.false_and]
        exact pb_0.mp ⟨rfl, rfl⟩ m q2 q3
      · rw [z36 _ (by omega), d5 _ (by omega)]
        dsimp only
        rw [decide_eq_false (show ¬ m < 1 by omega), Bool.false_and]
        exact pb_0.mp ⟨rfl, rfl⟩ m q3 q4
    | succ r ih =>
      intro j τ hr hj g g16 h14 h38
      have S1 := S.sk g
      obtain ⟨x, hx⟩ : ∃ x, W.1[j]? = some x := ⟨_, List.getElem?_eq_getElem (by omega)⟩
      have b3 := S1.2.1.2.2 j x hx
      have ll := mkP_len W.1 j
      have ms := mkP_s W.1 j
      rw [hx] at ms
      have ms : mkP W.1 (j + 1) = mkP W.1 j ++ if x.2.1 = true then [] else [j] := ms
      refine T_X11_takeStock_17 S1.1 ?_
      rw [S1.2.1.1, oN_le (by omega) (by omega), oN_t (show j < 2147483648 by omega), b3, h14, oN_t (by omega), oN_1, oN_1]
      refine ⟨fun z => absurd z (by omega), fun _ => ⟨ib_oN (by omega) (by omega), fun z => ?_, fun z => ⟨ib_oN (by omega) (by omega), ?_⟩⟩⟩
      · have xb : x.2.1 = true := Classical.byContradiction fun q => z (if_neg q)
        rw [if_pos xb, List.append_nil] at ms
        refine ih (j + 1) τ (by omega) (by omega) g g16 (by rw [ms]; exact h14) (by rw [ms]; exact h38)
      · have xb : ¬ x.2.1 = true := fun q => by
          rw [if_pos q] at z
          exact absurd z (by decide)
        rw [if_neg xb] at ms
        refine ih (j + 1) _ (by omega) (by omega) (g.tr ⟨rfl, rfl, fun a i q1 q2 => (wi_ne (by omega)).trans (wi_ne (by omega)), fun _ _ _ => rfl⟩) ((wi_ne (by omega)).trans ((wi_ne (by omega)).trans g16)) ?_ (fun i k hk => ?_)
        · rw [wi_eq, ms, List.length_append]
          rfl
        · rw [ms] at hk
          by_cases y : i < (mkP W.1 j).length
          · rw [List.getElem?_append_left y] at hk
            exact (wi_ne (by omega)).trans ((wi_ne (by omega)).trans (h38 i k hk))
          · have hl := (List.getElem?_eq_some_iff.mp hk).1
            rw [List.length_append, List.length_singleton] at hl
            have e : i = (mkP W.1 j).length := by omega
            subst e
            rw [List.getElem?_append_right (Nat.le_refl _), Nat.sub_self] at hk
            have e : j = k := Option.some.inj hk
            subst e
            exact (wi_ne (by omega)).trans wi_eq
  refine T_X11_takeStock_0 S.1 (go _ 0 _ rfl (Nat.zero_le _) ⟨rfl, rfl, fun a j q1 q2 => (wi_ne (by omega)).trans (wi_ne (by omega)), fun _ _ _ => rfl⟩ ((wi_ne (by omega)).trans wi_eq) wi_eq (fun i k hk => by cases hk))
end ST4

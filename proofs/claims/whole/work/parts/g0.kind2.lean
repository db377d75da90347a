/-! THE CLASS: a kind read, the loop over its parents -/
section RK2
variable {Z : zT} {d : Nat} {t : Nat → Int32} {n N : Nat} {B : Nat × Nat × Nat × Nat × Nat} {C : Nat × Nat × Nat × Nat} {W : Wld} {σ τ υ : Sg} {K : kS} {vs : List (List Int32)} {R : HR}
theorem rk_end {l1 l4 : Int32} (F : FX ΦC σ.sh σ.r) (h : C_X7_readKind_131 Z (d + 1) σ l1 K) : C_X7_readKind_43 Z (d + 1) σ l1 0 l4 K := T_X7_readKind_43 F ⟨fun _ => h, fun _ => ⟨fun _ => h, fun z => absurd rfl z⟩⟩
theorem rk_43 {es0 : Evs} {nm : Int32} {σ0 : Sg} (hB0 : HB t n N B C W σ0) : ∀ f p es ps g σ j i, n + 1 - p ≤ f → HdK σ0 σ → BdS t n N vs (.inr (p, es0 ++ es)) σ → (tyS t n p = 15 ∨ tyS t n p = 6) → PaS ps W.1.length σ → ps.Nodup → j ≤ i → σ.i 40 3 = Int32.ofNat i → i ≤ N → sgP t n i = p → (∀ τ q, pPa t n (enW W.1 W.2.1 W.2.2.1 (-1)) f p es ps g = .inl q → HdK σ0 τ → BdS t n N vs (.inl q) τ → C_X7_readKind_131 Z (d + 3) τ nm K) → (∀ τ p' es' ps' g', pPa t n (enW W.1 W.2.1 W.2.2.1 (-1)) f p es ps g = .inr (p', es', ps', g') → HdK σ0 τ → BdS t n N vs (.inr (p', es0 ++ es')) τ → PaS ps' W.1.length τ → ps'.Nodup → C_X7_readKind_131 Z (d + 3) τ nm K) → C_X7_readKind_43 Z (d + 3) σ nm 1 (Int32.ofNat j) K := by
  intro f
  induction f with
  | zero =>
    intro p es ps g σ j i hf h0 hb hy
    have := ty_pos (t := t) (n := n) (p := p) (by omega)
    omega
  | succ f ih =>
    intro p es ps g σ j i hf h0 hb hy hP nd hj hi hiN hip kd kl
    have hB := hB0.hk h0
    have l24 := hB.2.2.2.2.2.2.1.2.1
    have hp : p < n := ty_pos (t := t) (n := n) (by omega)
    have hx := nxS_gt (t := t) hp
    have hB' := hB
    obtain ⟨fx, sa, ss, ⟨nn, hN1⟩, -⟩ := hB'
    have hc := sa.2.2.2.2.2.2.2.2.2
    rw [pPa] at kd kl
    refine T_X7_readKind_43 fx ?_
    rw [ss.1, oN_le (by omega) (by omega)]
    refine ⟨fun z => absurd z (by omega), fun _ => ⟨fun z => absurd z (by decide), fun _ => h_sign hB hb ?_⟩⟩
    refine h_take (y := tyS t n p) (by omega) hB hb (fun τ1 f1 b1 => ?_)
    have e1 : htk t n (tyS t n p) (.inr (p, es0 ++ es)) = .inr (nxS t n p, es0 ++ es) := if_pos rfl
    rw [e1] at b1
    have hB1 := hB.hd f1
    obtain ⟨i1, i1N, i1e, -, i1p⟩ := b1.pos hB1
    have i1p := i1p _ _ rfl
    refine h_kind (w := -1) hB1 b1 (fun τ2 v v1 v2 hv f2 b2 => ?_)
    have hB2 := hB1.hd f2
    have hP2 := (hP.hd f1).hd f2
    have g2 : HdK σ0 τ2 := (h0.tr f1.k).tr f2.k
    by_cases y2 : tyS t n (nxS t n p) = 2
    · rw [if_pos y2] at kd kl
      have hv := hv _ _ rfl y2
      have e2 : hkn t n (enW W.1 W.2.1 W.2.2.1 (-1)).1 (.inr (nxS t n p, es0 ++ es)) = .inr (nxS t n (nxS t n p), es0 ++ es ++ (if (enW W.1 W.2.1 W.2.2.1 (-1)).1 (nmS t n (nxS t n p)) = none then [(nxS t n p, 3)] else [])) := if_pos y2
      rw [e2] at b2
      have hx2 := nxS_gt (t := t) (ty_pos (t := t) (n := n) (p := nxS t n p) (by omega))
      -- behind one parent
      have rest : ∀ (ps' : List Nat) (es' : Evs) (τ : Sg), HdK σ0 τ → BdS t n N vs (.inr (nxS t n (nxS t n p), es0 ++ (es ++ es'))) τ → es' = paE t n (enW W.1 W.2.1 W.2.2.1 (-1)) (nxS t n p) ps → ps' = paN t n (enW W.1 W.2.1 W.2.2.1 (-1)) (nxS t n p) ps → PaS ps' W.1.length τ → ps'.Nodup → C_X7_readKind_110 Z (d + 3) τ nm (Int32.ofNat j) K := fun ps' es' τ gτ bτ ee ep hPτ ndτ => by
        subst ee ep
        have hBτ := hB0.hk gτ
        refine T_X7_readKind_110 hBτ.1 (h_sign hBτ bτ ?_)
        have tb : tyS t n (nxS t n (nxS t n p)) ≤ 52 := ty_b
        show (¬ Int32.ofNat (tyS t n (nxS t n (nxS t n p))) = Int32.ofNat 6 → _) ∧ (Int32.ofNat (tyS t n (nxS t n (nxS t n p))) = Int32.ofNat 6 → _)
        rw [oN_eq (by omega) (by decide), oN_1]
        refine ⟨fun z => rk_end hBτ.1 ?_, fun z => ?_⟩
        · rw [if_neg z] at kl
          exact kl τ _ _ _ _ rfl gτ bτ hPτ ndτ
        · rw [if_pos z] at kd kl
          obtain ⟨i3, i3N, i3e, -, i3p⟩ := bτ.pos hBτ
          have i3p := i3p _ _ rfl
          have := sg_idx (t := t) (n := n) (i := i) (i' := i3) (by omega)
          exact ih _ _ _ _ τ (j + 1) i3 (by omega) gτ bτ (Or.inr z) hPτ ndτ (by omega) i3e i3N i3p kd kl
      cases hk : (enW W.1 W.2.1 W.2.2.1 (-1)).1 (nmS t n (nxS t n p)) with
      | none =>
        rw [hk] at hv b2
        have hv : v = -1 := hv
        subst hv
        refine cl_isPar hB2.1 hP2 (fun ⟨q, q1, q2⟩ => ?_) (fun _ => ⟨fun _ => ⟨fun _ => rest ps _ τ2 g2 (by rw [← List.append_assoc]; exact b2) ?_ ?_ hP2 nd, fun z => absurd (by decide) z⟩, fun z => absurd rfl z⟩)
        · exfalso
          obtain ⟨i', hi'⟩ := List.mem_iff_getElem?.mp q1
          have := (hP2.2.2 i' q hi').2
          have := congrArg Int32.toInt q2
          rw [oN_i (by omega)] at this
          have : (-1 : Int) = (q : Int) := this
          omega
        · unfold paE
          rw [hk]
          rfl
        · unfold paN
          rw [hk]
      | some q =>
        rw [hk] at hv b2
        have hv : v = (q : Int) := hv
        subst hv
        rw [if_neg (fun z => by cases z), List.append_nil] at b2
        have qlt : q < W.1.length := by omega
        show C_X2_isParent_0 Z (d + 2) τ2 (Int32.ofNat q) _
        have iff : (∃ p ∈ ps, Int32.ofNat q = Int32.ofNat p) ↔ q ∈ ps := ⟨fun ⟨p', h1, h2⟩ => by
          obtain ⟨i', hi'⟩ := List.mem_iff_getElem?.mp h1
          have := (hP2.2.2 i' p' hi').2
          rw [oN_eq (by omega) (by omega)] at h2
          rw [h2]
          exact h1, fun h => ⟨q, h, rfl⟩⟩
        refine cl_isPar hB2.1 hP2 (fun z => ⟨fun y => absurd y (by decide), fun _ => ?_⟩) (fun z => ⟨fun _ => ⟨fun y => absurd y ?_, fun _ => ?_⟩, fun y => absurd rfl y⟩)
        · have mq := iff.mp z
          rw [i1e]
          refine h_break (rule := 5) hB2 b2 i1N (by decide) (fun τ3 f3 b3 => rest ps [(nxS t n p, 5)] τ3 (g2.tr f3.k) ?_ ?_ ?_ (hP2.hd f3) nd)
          · rw [i1p] at b3
            rw [← List.append_assoc]
            exact b3
          · unfold paE
            rw [hk]
            exact (if_pos mq).symm
          · unfold paN
            rw [hk]
            exact (if_pos mq).symm
        · show ¬ Int32.ofNat q < 0
          rw [show (0 : Int32) = Int32.ofNat 0 from rfl, oN_lt (by omega) (by decide)]
          omega
        · have mq : q ∉ ps := fun y => z (iff.mpr y)
          have nd2 : (ps ++ [q]).Nodup := List.nodup_append.mpr ⟨nd, List.nodup_cons.mpr ⟨by simp, List.nodup_nil⟩, fun a ha b hb => by
            rw [List.mem_singleton.mp hb]
            exact fun z => mq (z ▸ ha)⟩
          have ll := nd_len W.1.length _ nd2 (fun z hz => by
            rcases List.mem_append.mp hz with h | h
            · obtain ⟨i', hi'⟩ := List.mem_iff_getElem?.mp h
              exact (hP2.2.2 i' z hi').2
            · rw [List.mem_singleton.mp h]
              exact qlt)
          rw [List.length_append, List.length_singleton] at ll
          refine cl_addPar hB2.1 hP2 (by omega) qlt (fun hP3 => rest (ps ++ [q]) [] _ (g2.tr ((HdK.wi (Or.inr rfl)).tr (HdK.wi (Or.inl ⟨rfl, rfl⟩)))) ?_ ?_ ?_ hP3 nd2)
          · rw [List.append_nil]
            exact (b2.wi (by decide) (by decide)).wi (by decide) (by decide)
          · unfold paE
            rw [hk]
            exact (if_neg mq).symm
          · unfold paN
            rw [hk]
            exact (if_neg mq).symm
    · -- no name there
      rw [if_neg y2] at kd kl
      have e2 : hkn t n (enW W.1 W.2.1 W.2.2.1 (-1)).1 (.inr (nxS t n p, es0 ++ es)) = .inl (nxS t n p) := if_neg y2
      rw [e2] at b2
      have rest : ∀ τ, HdK σ0 τ → BdS t n N vs (.inl (nxS t n p)) τ → C_X7_readKind_110 Z (d + 3) τ nm (Int32.ofNat j) K := fun τ gτ bτ => by
        have hBτ := hB0.hk gτ
        refine T_X7_readKind_110 hBτ.1 (h_sign hBτ bτ ⟨fun _ => rk_end hBτ.1 (kd τ _ rfl gτ bτ), fun z => absurd z ?_⟩)
        show ¬ Int32.ofNat 0 = 6
        decide
      refine cl_isPar hB2.1 hP2 (fun _ => ⟨fun y => absurd y (by decide), fun _ => ?_⟩) (fun _ => ⟨fun _ => ⟨fun _ => rest τ2 g2 b2, fun _ => cl_addParX (t := t) (n := n) (N := N) hB2.1 hP2 (fun τ3 f3 b3 => rest τ3 (g2.tr f3) (b3 _ _ b2))⟩, fun y => absurd rfl y⟩)
      rw [i1e]
      exact h_break (rule := 5) hB2 b2 i1N (by decide) (fun τ3 f3 b3 => rest τ3 (g2.tr f3.k) b3)
end RK2

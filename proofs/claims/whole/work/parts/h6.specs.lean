/-! THE CLASS: SPECs, one after another -/
section SPS
variable {Z : zT} {d : Nat} {t : Nat → Int32} {n N m : Nat} {B : Nat × Nat × Nat × Nat × Nat} {C : Nat × Nat × Nat × Nat} {W : Wld} {σ τ υ : Sg} {K : kS} {vs : List (List Int32)} {R : HR}
/-- the SPECs so far -/
def SpL (m : Nat) (acc : List Spc) (σ : Sg) : Prop := ∀ j, j < 3 → SpC σ m j (acc.getD j (0, false, 0))
/-- the end: all SPECs were read -/
theorem ss_129 {wn k : Nat} {o : Int} {l4 : Int32} (hwn : wn ≤ 3) (hl4 : l4 = Int32.ofNat k) (hk : k < 100000) (ho : -1 ≤ o ∧ o < 24) (h8 : σ.i 40 8 = Int32.ofInt o) (hB : HB t n N B C W σ) (h : BdS t n N vs R σ) (kk : ∀ τ, HdF σ τ → BdS t n N vs (htk t n 5 (hbd R fun p es => .inr (p, es ++ if k < wn ∧ 0 ≤ o then [(p, 4)] else []))) τ → K (.inl none) τ) : C_X7_readSpecs_129 Z (d + 2) σ (Int32.ofNat wn) l4 K := by
  subst hl4
  obtain ⟨i, i1, i2, -, i4⟩ := h.pos hB
  have oi : Int32.ofInt o < 0 ↔ o < 0 := by
    rw [Int32.lt_iff_toInt_lt, Int32.toInt_ofInt, show Int32.size = 4294967296 from rfl, Int.bmod_eq_of_le (by omega) (by omega)]
    exact Iff.rfl
  have no : ¬ (k < wn ∧ 0 ≤ o) → (hbd R fun p es => (.inr (p, es ++ if k < wn ∧ 0 ≤ o then [(p, 4)] else []) : HR)) = R := fun z => by
    rcases R with q | ⟨p, es⟩
    · rfl
    · show Sum.inr (p, es ++ if k < wn ∧ 0 ≤ o then [(p, 4)] else []) = _
      rw [if_neg z, List.append_nil]
  refine T_X7_readSpecs_129 hB.1 ?_
  rw [oN_le (by omega) (by omega), h8, oi]
  refine ⟨fun z => ?_, fun z => ⟨fun y => ?_, fun y => ?_⟩⟩
  · rw [no (by omega)] at kk
    exact h_take (y := 5) (by decide) hB h kk
  · rw [no (by omega)] at kk
    exact h_take (y := 5) (by decide) hB h kk
  · rw [i2]
    refine h_break (rule := 4) hB h i1 (by decide) (fun τ1 f1 b1 => h_take (y := 5) (by decide) (hB.hd f1) ?_ (fun τ2 f2 b2 => kk τ2 (f1.tr f2) b2))
    rcases R with q | ⟨p, es⟩
    · exact b1
    · rw [i4 p es rfl] at b1
      show BdS t n N vs (.inr (p, es ++ if k < wn ∧ 0 ≤ o then [(p, 4)] else [])) τ1
      rw [if_pos (by omega)]
      exact b1
theorem ss_end {l1 l2 l4 l5 : Int32} (F : FX ΦC σ.sh σ.r) (h : C_X7_readSpecs_129 Z (d + 1) σ l2 l4 K) : C_X7_readSpecs_47 Z (d + 1) σ l1 l2 0 l4 l5 K := T_X7_readSpecs_47 F ⟨fun _ => h, fun _ => ⟨fun _ => h, fun z => absurd rfl z⟩⟩
/-- one SPEC and what is behind it -/
theorem ss_92 {k wn : Nat} {l2 : Int32} {w : Int} (hm : m < 122) (hk : k < 3) (hl : l2 = Int32.ofNat k ∨ l2 = -1) {kn : Nat} (hj : ∀ p es, R = .inr (p, es) → ∀ nm ∈ vs, nm ≠ []) (hv : vs.length ≤ 3) (hB : HB t n N B C W σ) (hC : C.2.1 = 25 ∨ 102 ≤ C.2.1) (h : BdS t n N vs R σ) (kd : ∀ τ vs' q, hs1 t n (enW W.1 W.2.1 W.2.2.1 w) vs R = .inl q → SpF m σ τ → (vs'.length ≤ vs.length ∨ (l2 = Int32.ofNat k ∧ vs'.length ≤ vs.length + 1)) → BdS t n N vs' (.inl q) τ → C_X7_readSpecs_47 Z (d + 4) τ (Int32.ofNat m) (Int32.ofNat wn) 0 (Int32.ofNat (kn + 1)) (Int32.ofNat (kn + 1)) K) (kl : ∀ τ vs' p es p2 e1 e2 s, R = .inr (p, es) → pS1 t n (enW W.1 W.2.1 W.2.2.1 w) vs p = .inr (p2, e1, e2, s) → SpF m σ τ → (l2 = -1 → ∀ a j, a = 15 ∨ a = 16 ∨ a = 17 → τ.i a j = σ.i a j) → (∀ a j, (a = 15 ∨ a = 16 ∨ a = 17) → j ≠ 3 * m + k → τ.i a j = σ.i a j) → (l2 = Int32.ofNat k → e2 = [] → SpC σ m k (0, false, 0) → SpC τ m k s) → (l2 = -1 → vs' = vs) → (l2 = Int32.ofNat k → vs' = vs ++ [nmS t n p]) → ((¬ tyS t n p2 = 6 ∧ BdS t n N vs' (.inr (p2, es ++ e1 ++ e2)) τ) → C_X7_readSpecs_47 Z (d + 4) τ (Int32.ofNat m) (Int32.ofNat wn) 0 (Int32.ofNat (kn + 1)) (Int32.ofNat (kn + 1)) K) ∧ ((tyS t n p2 = 6 ∧ BdS t n N vs' (.inr (nxS t n p2, es ++ e1 ++ e2)) τ) → C_X7_readSpecs_47 Z (d + 4) τ (Int32.ofNat m) (Int32.ofNat wn) 1 (Int32.ofNat (kn + 1)) (Int32.ofNat (kn + 1)) K)) : C_X7_readSpecs_92 Z (d + 4) σ (Int32.ofNat m) (Int32.ofNat wn) (Int32.ofNat kn) (Int32.ofNat kn) (Int32.ofNat m) l2 K := by
  refine T_X7_readSpecs_92 hB.1 (cl_spec (w := w) hm hk hl hj hv hB hC h (fun τ1 vs' f1 g1 g2 g3 v1 v2 b1 => ?_))
  have hB1 := hB.sp f1 hC
  have tb := hsg_b (t := t) (n := n) (hs1 t n (enW W.1 W.2.1 W.2.2.1 w) vs R)
  refine h_sign hB1 b1 ?_
  show (¬ Int32.ofNat (hsg t n (hs1 t n (enW W.1 W.2.1 W.2.2.1 w) vs R)) = Int32.ofNat 6 → _) ∧ (Int32.ofNat (hsg t n (hs1 t n (enW W.1 W.2.1 W.2.2.1 w) vs R)) = Int32.ofNat 6 → _)
  rw [oN_eq (by omega) (by decide), oN_1]
  have lv : vs'.length ≤ vs.length ∨ (l2 = Int32.ofNat k ∧ vs'.length ≤ vs.length + 1) := by
    rcases hl with hl | hl
    · obtain ⟨nm, e, -⟩ := v2 hl
      rw [e, List.length_append]
      exact Or.inr ⟨hl, Nat.le_refl _⟩
    · rw [v1 hl]
      exact Or.inl (Nat.le_refl _)
  rcases R with q | ⟨p, es⟩
  · refine ⟨fun _ => ⟨fun _ => kd τ1 vs' q rfl f1 lv b1, fun z => absurd rfl z⟩, fun z => absurd z (show ¬ 0 = 6 by decide)⟩
  · cases hp : pS1 t n (enW W.1 W.2.1 W.2.2.1 w) vs p with
    | inl q =>
      have eh : hs1 t n (enW W.1 W.2.1 W.2.2.1 w) vs (.inr (p, es)) = .inl q := by
        unfold hs1 hbd
        dsimp only
        rw [hp]
      rw [eh] at b1 kd ⊢
      exact ⟨fun _ => ⟨fun _ => kd τ1 vs' q rfl f1 lv b1, fun z => absurd rfl z⟩, fun z => absurd z (show ¬ 0 = 6 by decide)⟩
    | inr x =>
      obtain ⟨p2, e1, e2, s⟩ := x
      have eh : hs1 t n (enW W.1 W.2.1 W.2.2.1 w) vs (.inr (p, es)) = .inr (p2, es ++ e1 ++ e2) := by
        unfold hs1 hbd
        dsimp only
        rw [hp]
      rw [eh] at b1 ⊢
      have v2' : l2 = Int32.ofNat k → vs' = vs ++ [nmS t n p] := fun el => by
        obtain ⟨nm, e, hn⟩ := v2 el
        rw [e, hn p es rfl]
      have g3' : l2 = Int32.ofNat k → e2 = [] → SpC σ m k (0, false, 0) → SpC τ1 m k s := fun el ee hS => by
        subst ee
        exact g3 el p es p2 e1 s rfl hp hS
      refine ⟨fun z => ⟨fun _ => (kl τ1 vs' p es p2 e1 e2 s rfl hp f1 g1 g2 g3' v1 v2').1 ⟨z, b1⟩, fun y => absurd rfl y⟩, fun z => ⟨fun y => absurd y (by decide), fun _ => h_take (y := 6) (by decide) hB1 b1 (fun τ2 f2 b2 => ?_)⟩⟩
      have z : tyS t n p2 = 6 := z
      have e6 : ∀ x, htk t n 6 (.inr (p2, x)) = .inr (nxS t n p2, x) := fun x => if_pos z
      rw [e6] at b2
      have gi : ∀ a j, a = 15 ∨ a = 16 ∨ a = 17 → τ2.i a j = τ1.i a j := fun a j q => f2.2.2.1 a j (by omega) (by omega)
      exact (kl τ2 vs' p es p2 e1 e2 s rfl hp (f1.tr (f2.sp m)) (fun e a j q => (gi a j q).trans (g1 e a j q)) (fun a j q1 q2 => (gi a j q1).trans (g2 a j q1 q2)) (fun el ee hS => by
        obtain ⟨s1, s2, s3⟩ := g3' el ee hS
        exact ⟨(gi 15 _ (by omega)).trans s1, (gi 16 _ (by omega)).trans s2, (gi 17 _ (by omega)).trans s3⟩) v1 v2').2 ⟨z, b2⟩
/-- the loop -/
theorem ss_47 {wn : Nat} {o w : Int} {es0 : Evs} {σ0 : Sg} (hm : m < 122) (hwn : 1 ≤ wn ∧ wn ≤ 3) (ho : -1 ≤ o ∧ o < 24) (hB0 : HB t n N B C W σ0) (hC : C.2.1 = 25 ∨ 102 ≤ C.2.1) (h8 : σ0.i 40 8 = Int32.ofInt o) : ∀ f p k vs vsP Ec esP acc σ i, n + 1 - p ≤ f → SpF m σ0 σ → BdS t n N vs (.inr (p, Ec)) σ → σ.i 40 3 = Int32.ofNat i → i ≤ N → sgP t n i = p → k ≤ i → (∀ nm ∈ vs, nm ≠ []) → (vs.length ≤ k ∧ vs.length ≤ wn) → EqB p Ec (es0 ++ esP) → (Ec = [] → 0 ≤ o ∧ vsP = vs ∧ vs.length = k ∧ acc.length = k ∧ SpL m acc σ) → (∀ τ vs' q, pSp t n (enW W.1 W.2.1 W.2.2.1 w) (if 0 ≤ o then wn else 0) f p k vsP esP acc = .inl q → SpF m σ0 τ → vs'.length ≤ 3 → BdS t n N vs' (.inl q) τ → K (.inl none) τ) → (∀ τ vs' Ec' p' V esP' acc', pSp t n (enW W.1 W.2.1 W.2.2.1 w) (if 0 ≤ o then wn else 0) f p k vsP esP acc = .inr (p', V, esP', acc') → SpF m σ0 τ → (∀ nm ∈ vs', nm ≠ []) → vs'.length ≤ 3 → BdS t n N vs' (.inr (p', Ec')) τ → EqB p' Ec' (es0 ++ esP') → (Ec' = [] → vs' = V ∧ acc'.length = wn ∧ SpL m acc' τ) → K (.inl none) τ) → C_X7_readSpecs_47 Z (d + 4) σ (Int32.ofNat m) (Int32.ofNat wn) 1 (Int32.ofNat k) (Int32.ofNat k) K := by
  intro f
  induction f with
  | zero =>
    intro p k vs vsP Ec esP acc σ i hf g h hi hiN hip
    have hp : p ≤ n := by
      rw [← hip]
      exact sgP_le t n i
    omega
  | succ f ih =>
    intro p k vs vsP Ec esP acc σ i hf g h hi hiN hip hki hj hv hE hA kd kl
    have hB := hB0.sp g hC
    have hB' := hB
    obtain ⟨fx, sa, ss, ⟨nn, hN1⟩, -⟩ := hB'
    have hcc := sa.2.2.2.2.2.2.2.2.2
    rw [sp_step (vs := vs)] at kd kl
    have h8' : ∀ τ, SpF m σ0 τ → τ.i 40 8 = Int32.ofInt o := fun τ f => (f.2.2.1 40 8 (by omega) (by omega) (by omega)).trans h8
    -- one too many
    have go : ∀ σ1, HdF σ σ1 → BdS t n N vs (.inr (p, Ec ++ if k = wn then [(p, 4)] else [])) σ1 → C_X7_readSpecs_78 Z (d + 4) σ1 (Int32.ofNat m) (Int32.ofNat wn) (Int32.ofNat k) (Int32.ofNat k) K := fun σ1 f1 b1 => by
      have hB1 := hB.hd f1
      have g1 : SpF m σ0 σ1 := g.tr (f1.sp m)
      have hA1 : Ec = [] → SpL m acc σ1 := fun z j hj => by
        obtain ⟨s1, s2, s3⟩ := (hA z).2.2.2.2 j hj
        exact ⟨(f1.2.2.1 15 _ (by omega) (by omega)).trans s1, (f1.2.2.1 16 _ (by omega) (by omega)).trans s2, (f1.2.2.1 17 _ (by omega) (by omega)).trans s3⟩
      -- one SPEC
      have one : ∀ l2 : Int32, (k < wn → l2 = Int32.ofNat k) → (¬ k < wn → l2 = -1) → C_X7_readSpecs_92 Z (d + 4) σ1 (Int32.ofNat m) (Int32.ofNat wn) (Int32.ofNat k) (Int32.ofNat k) (Int32.ofNat m) l2 K := fun l2 c1 c2 => by
        have ll : l2 = Int32.ofNat (min k 2) ∨ l2 = -1 := by
          by_cases y : k < wn
          · exact Or.inl (by rw [c1 y, Nat.min_eq_left (by omega)])
          · exact Or.inr (c2 y)
        refine ss_92 (w := w) (k := min k 2) hm (by omega) ll (fun _ _ _ => hj) (by omega) hB1 hC b1 (fun τ vs' q e f2 lv b2 => ?_) (fun τ vs' p' es' p2 e1 e2 s e ep f2 q1 q2 q3 v1 v2 => ?_)
        · -- dead
          have e0 : pS1 t n (enW W.1 W.2.1 W.2.2.1 w) vs p = .inl q := by
            unfold hs1 hbd at e
            dsimp only at e
            cases hp : pS1 t n (enW W.1 W.2.1 W.2.2.1 w) vs p with
            | inl q' =>
              rw [hp] at e
              have : q' = q := Sum.inl.inj e
              rw [this]
            | inr x =>
              rw [hp] at e
              cases e
          rw [e0] at kd
          have hB2 := hB1.sp f2 hC
          refine ss_end hB2.1 (ss_129 (o := o) hwn.2 rfl (by omega) ho (h8' τ (g1.tr f2)) hB2 b2 (fun τ3 f3 b3 => kd τ3 vs' q rfl ((g1.tr f2).tr (f3.sp m)) ?_ b3))
          rcases lv with lv | ⟨l1, l2'⟩
          · omega
          · by_cases y : k < wn
            · omega
            · exact absurd (l1.symm.trans (c2 y)) (ofN_m1 (by omega))
        · have e := Sum.inr.inj e
          have ea : p = p' := congrArg Prod.fst e
          have eb : (Ec ++ if k = wn then [(p, 4)] else []) = es' := congrArg Prod.snd e
          subst ea eb
          rw [ep] at kd kl
          dsimp only at kd kl
          have hB2 := hB1.sp f2 hC
          obtain ⟨p2g, in12, yp⟩ := s1_in ep
          have in1 : In p p2 e1 := fun e he => in12 e (List.mem_append_left _ he)
          have in2 : In p p2 e2 := fun e he => in12 e (List.mem_append_right _ he)
          have inX : In p p2 (if k = wn then [(p, 4)] else []) := in_ife (Nat.le_refl _) p2g
          have inXP : In p p2 (if 0 < (if 0 ≤ o then wn else 0) ∧ k = (if 0 ≤ o then wn else 0) then [(p, 4)] else []) := in_ife (Nat.le_refl _) p2g
          have inD : In p p2 (dupK vsP (nmS t n p) p vsP.length) := in_dup (Nat.le_refl _) p2g
          -- what is broken so far
          have hE2 : EqB p2 ((Ec ++ if k = wn then [(p, 4)] else []) ++ e1 ++ e2) (es0 ++ (esP ++ (if 0 < (if 0 ≤ o then wn else 0) ∧ k = (if 0 ≤ o then wn else 0) then [(p, 4)] else []) ++ dupK vsP (nmS t n p) p vsP.length ++ e2)) := by
            have as1 : (Ec ++ if k = wn then [(p, 4)] else []) ++ e1 ++ e2 = Ec ++ ((if k = wn then [(p, 4)] else []) ++ e1 ++ e2) := by simp only [List.append_assoc]
            have as2 : es0 ++ (esP ++ (if 0 < (if 0 ≤ o then wn else 0) ∧ k = (if 0 ≤ o then wn else 0) then [(p, 4)] else []) ++ dupK vsP (nmS t n p) p vsP.length ++ e2) = (es0 ++ esP) ++ ((if 0 < (if 0 ≤ o then wn else 0) ∧ k = (if 0 ≤ o then wn else 0) then [(p, 4)] else []) ++ dupK vsP (nmS t n p) p vsP.length ++ e2) := by simp only [List.append_assoc]
            rw [as1, as2]
            by_cases y : Ec = []
            · obtain ⟨a1, a2, a3, a4, a5⟩ := hA y
              rw [y, hE.nil.mp y, List.nil_append, List.nil_append, if_pos a1, a2]
              have ex : (if 0 < wn ∧ k = wn then [(p, 4)] else [] : Evs) = if k = wn then [(p, 4)] else [] := by
                by_cases q : k = wn
                · rw [if_pos q, if_pos ⟨by omega, q⟩]
                · rw [if_neg q, if_neg (fun z => q z.2)]
              rw [ex]
              refine eqb_set (a := p) (b := p2) (fun e => ?_) (in_app (in_app inX in1) in2) (Nat.le_refl _)
              have ee1 : e1 = if lstI vs (nmS t n p) = none then [] else [(p, 2)] := by
                unfold pS1 at ep
                rw [if_pos yp] at ep
                cases h1 : pSk t n (enW W.1 W.2.1 W.2.2.1 w) (nxS t n p) with
                | inl q =>
                  rw [h1] at ep
                  cases ep
                | inr x =>
                  rw [h1] at ep
                  dsimp only at ep
                  cases h2 : pSq t n x.1 with
                  | inl q =>
                    rw [h2] at ep
                    cases ep
                  | inr y =>
                    rw [h2] at ep
                    exact (congrArg (fun x => x.2.1) (Sum.inr.inj ep)).symm
              rw [ee1, List.mem_append, List.mem_append, List.mem_append, List.mem_append, dup_set]
            · exact hE.later y (in_app (in_app inX in1) in2) (in_app (in_app inXP inD) in2) (by omega)
          -- and if nothing is
          have clean : (Ec ++ if k = wn then [(p, 4)] else []) ++ e1 ++ e2 = [] → 0 ≤ o ∧ k < wn ∧ (if vsP.length < 3 then vsP ++ [nmS t n p] else vsP) = vs' ∧ vs'.length = k + 1 ∧ (if k < 3 then acc ++ [s] else acc).length = k + 1 ∧ SpL m (if k < 3 then acc ++ [s] else acc) τ := fun z => by
            obtain ⟨z1, z2⟩ := List.append_eq_nil_iff.mp z
            obtain ⟨z3, z4⟩ := List.append_eq_nil_iff.mp z1
            obtain ⟨z5, z6⟩ := List.append_eq_nil_iff.mp z3
            have z7 := ife_nil z6
            obtain ⟨a1, a2, a3, a4, a5⟩ := hA z5
            have kw : k < wn := by omega
            have mk : min k 2 = k := Nat.min_eq_left (by omega)
            rw [mk] at q2 q3 v2
            have el := c1 kw
            have ev := v2 el
            rw [if_pos (show vsP.length < 3 by rw [a2]; omega), if_pos (show k < 3 by omega), a2, ev, List.length_append, List.length_append, a3, a4]
            refine ⟨a1, kw, rfl, rfl, rfl, fun j hj => ?_⟩
            have hS1 := hA1 z5
            by_cases yj : j = k
            · subst yj
              have e1 : (acc ++ [s]).getD j (0, false, 0) = s := by
                rw [List.getD_eq_getElem?_getD, List.getElem?_append_right (by omega), a4, Nat.sub_self]
                rfl
              rw [e1]
              have e0 : acc.getD j (0, false, 0) = (0, false, 0) := by
                rw [List.getD_eq_getElem?_getD, List.getElem?_eq_none (by omega)]
                rfl
              have := hS1 j hj
              rw [e0] at this
              exact q3 el z2 this
            · have e1 : (acc ++ [s]).getD j (0, false, 0) = acc.getD j (0, false, 0) := by
                rw [List.getD_eq_getElem?_getD, List.getD_eq_getElem?_getD]
                by_cases yl : j < acc.length
                · rw [List.getElem?_append_left yl]
                · rw [List.getElem?_eq_none (show acc.length ≤ j by omega), List.getElem?_eq_none (by rw [List.length_append, List.length_singleton]; omega)]
              rw [e1]
              obtain ⟨s1, s2, s3⟩ := hS1 j hj
              exact ⟨(q2 15 _ (by omega) (by omega)).trans s1, (q2 16 _ (by omega) (by omega)).trans s2, (q2 17 _ (by omega) (by omega)).trans s3⟩
          have hj' : ∀ nm ∈ vs', nm ≠ [] := by
            by_cases y : k < wn
            · have mk : min k 2 = k := Nat.min_eq_left (by omega)
              rw [mk] at v2
              rw [v2 (c1 y)]
              intro nm hn
              rcases List.mem_append.mp hn with q | q
              · exact hj nm q
              · rw [List.mem_singleton.mp q]
                exact nm_ne yp
            · rw [v1 (c2 y)]
              exact hj
          have lv' : vs'.length ≤ k + 1 ∧ vs'.length ≤ wn := by
            by_cases y : k < wn
            · have mk : min k 2 = k := Nat.min_eq_left (by omega)
              rw [mk] at v2
              rw [v2 (c1 y), List.length_append, List.length_singleton]
              omega
            · rw [v1 (c2 y)]
              omega
          refine ⟨fun ⟨z6, b2⟩ => ?_, fun ⟨z6, b2⟩ => ?_⟩
          · rw [if_neg z6] at kd kl
            refine ss_end hB2.1 (ss_129 (k := k + 1) (o := o) hwn.2 rfl (by omega) ho (h8' τ (g1.tr f2)) hB2 b2 (fun τ3 f3 b3 => ?_))
            by_cases z5 : tyS t n p2 = 5
            · rw [if_pos z5] at kl
              have hx := nx_le (t := t) (n := n) (p := p2) (by omega)
              have e5 : ∀ x, htk t n 5 (.inr (p2, x)) = .inr (nxS t n p2, x) := fun x => if_pos z5
              have b3 : BdS t n N vs' (htk t n 5 (.inr (p2, (Ec ++ if k = wn then [(p, 4)] else []) ++ e1 ++ e2 ++ if k + 1 < wn ∧ 0 ≤ o then [(p2, 4)] else []))) τ3 := b3
              rw [e5] at b3
              refine kl τ3 vs' _ _ _ _ _ rfl ((g1.tr f2).tr (f3.sp m)) hj' (by omega) b3 ?_ (fun z => ?_)
              · have ey : (if 0 < (if 0 ≤ o then wn else 0) ∧ k + 1 < (if 0 ≤ o then wn else 0) then [(p2, 4)] else [] : Evs) = if k + 1 < wn ∧ 0 ≤ o then [(p2, 4)] else [] := by
                  by_cases q : 0 ≤ o
                  · rw [if_pos q]
                    by_cases q2 : k + 1 < wn
                    · rw [if_pos ⟨by omega, q2⟩, if_pos ⟨q2, q⟩]
                    · rw [if_neg (fun z => q2 z.2), if_neg (fun z => q2 z.1)]
                  · rw [if_neg q, if_neg (fun z => by omega), if_neg (fun z => q z.2)]
                rw [ey, ← List.append_assoc]
                have inL : In p2 (nxS t n p2) (if k + 1 < wn ∧ 0 ≤ o then [(p2, 4)] else []) := in_ife (Nat.le_refl _) hx
                by_cases y : (Ec ++ if k = wn then [(p, 4)] else []) ++ e1 ++ e2 = []
                · rw [y, hE2.nil.mp y]
                  exact eqb_set (fun e => Iff.rfl) inL (Nat.le_refl _)
                · exact hE2.later y inL inL (by omega)
              · obtain ⟨z1, z2⟩ := List.append_eq_nil_iff.mp z
                obtain ⟨a1, a2, a3, a4, a5, a6⟩ := clean z1
                have z3 := ife_nil z2
                refine ⟨a3.symm, by omega, fun j hj => ?_⟩
                obtain ⟨s1, s2, s3⟩ := a6 j hj
                exact ⟨(f3.2.2.1 15 _ (by omega) (by omega)).trans s1, (f3.2.2.1 16 _ (by omega) (by omega)).trans s2, (f3.2.2.1 17 _ (by omega) (by omega)).trans s3⟩
            · rw [if_neg z5] at kd
              have e5 : ∀ x, htk t n 5 (.inr (p2, x)) = .inl p2 := fun x => if_neg z5
              have b3 : BdS t n N vs' (htk t n 5 (.inr (p2, (Ec ++ if k = wn then [(p, 4)] else []) ++ e1 ++ e2 ++ if k + 1 < wn ∧ 0 ≤ o then [(p2, 4)] else []))) τ3 := b3
              rw [e5] at b3
              exact kd τ3 vs' _ rfl ((g1.tr f2).tr (f3.sp m)) (by omega) b3
          · rw [if_pos z6] at kd kl
            have hx := nx_le (t := t) (n := n) (p := p2) (by omega)
            obtain ⟨i3, i3N, i3e, -, i3p⟩ := b2.pos hB2
            have i3p := i3p _ _ rfl
            have lt := sg_idx (t := t) (n := n) (i := i) (i' := i3) (by omega)
            refine ih _ (k + 1) vs' _ _ _ _ τ i3 (by omega) (g1.tr f2) b2 i3e i3N i3p (by omega) hj' lv' (hE2.wk (by omega)) (fun z => ?_) kd kl
            obtain ⟨a1, a2, a3, a4, a5, a6⟩ := clean z
            exact ⟨a1, a3, a4, a5, a6⟩
      refine T_X7_readSpecs_78 hB1.1 ?_
      rw [oN_le (by omega) (by omega)]
      exact ⟨fun z => one (-1) (fun y => absurd y (by omega)) (fun _ => rfl), fun z => one _ (fun _ => rfl) (fun y => absurd (by omega) y)⟩
    refine T_X7_readSpecs_47 fx ?_
    rw [ss.1, oN_le (by omega) (by omega), oN_eq (by omega) (by omega)]
    refine ⟨fun z => absurd z (by omega), fun _ => ⟨fun z => absurd z (by decide), fun _ => ⟨fun z => go σ (HdF.refl _) ?_, fun z => ?_⟩⟩⟩
    · rw [if_neg z, List.append_nil]
      exact h
    · rw [hi]
      refine h_break (rule := 4) hB h hiN (by decide) (fun σ1 f1 b1 => go σ1 f1 ?_)
      rw [hip] at b1
      rw [if_pos z]
      exact b1
end SPS

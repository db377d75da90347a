/-! THE CLASS: reading outside of bodies; rules, names, numbers -/
section HOPS2
variable (t : Nat → Int32) (n : Nat)
def hkn (f : List Int32 → Option Nat) (R : HR) : HR := hbd R fun p es => if tyS t n p = 2 then .inr (nxS t n p, es ++ (if f (nmS t n p) = none then [(p, 3)] else [])) else .inl p
def hnu (R : HR) : HR := hbd R fun p es => match pSg t n p with
  | .inl q => .inl q
  | .inr (_, p1) => .inr (p1, es)
end HOPS2
section HST2
variable {Z : zT} {d : Nat} {t : Nat → Int32} {n N : Nat} {B : Nat × Nat × Nat × Nat × Nat} {C : Nat × Nat × Nat × Nat} {W : Wld} {σ τ υ : Sg} {K : kS} {vs : List (List Int32)} {R : HR}
theorem BrF.hd (h : BrF σ τ) : HdF σ τ := ⟨h.1, h.2.1, fun a k q1 q2 => h.2.2.2 a k (by omega), fun a k _ => by rw [h.2.2.1]⟩
theorem h_brkD {j rule : Nat} (cb : HB t n N B C W σ) (hj : j ≤ N) (k : ∀ τ, BrF σ τ → K (.inl none) τ) : C_X7_breakRule_0 Z (d + 1) σ (Int32.ofNat rule) (Int32.ofNat j) K := by
  obtain ⟨f, sa, ss, ⟨nn, hN⟩, -⟩ := cb
  have hc := sa.2.2.2.2.2.2.2.2.2
  refine T_X7_breakRule_0 f ⟨_, sa.2.1.1, _, sa.2.1.2, ib_oN (by omega) (by omega), fun _ => k _ (BrF.ww _ _ _), fun _ => ⟨fun _ => k _ (BrF.ww _ _ _), fun _ => ⟨fun _ => k _ (BrF.refl _), fun _ => ⟨fun _ => k _ (BrF.refl _), fun _ => k _ (BrF.ww _ _ _)⟩⟩⟩⟩
theorem h_brkL {j rule : Nat} {es : Evs} (cb : HB t n N B C W σ) (ru : RuC es σ) (he : ∀ e ∈ es, e.1 ≤ n ∧ 1 ≤ e.2 ∧ e.2 ≤ 7) (hj : j ≤ N) (hr : 1 ≤ rule ∧ rule ≤ 7) (k : ∀ τ, BrF σ τ → RuC (es ++ [(sgP t n j, rule)]) τ → K (.inl none) τ) : C_X7_breakRule_0 Z (d + 1) σ (Int32.ofNat rule) (Int32.ofNat j) K := by
  obtain ⟨f, sa, ss, ⟨nn, hN⟩, -⟩ := cb
  have hc := sa.2.2.2.2.2.2.2.2.2
  have hp := sgP_le t n j
  refine T_X7_breakRule_0 f ⟨_, sa.2.1.1, _, sa.2.1.2, ?_⟩
  rw [oN_t (by omega), (ss.2.1 j hj).2.1]
  have wr : lsE (es ++ [(sgP t n j, rule)]) = some (sgP t n j, rule) → K (.inl none) ((σ.wi 40 5 (Int32.ofNat (sgP t n j))).wi 40 6 (Int32.ofNat rule)) := fun y => k _ (BrF.ww _ _ _) (by
    unfold RuC
    rw [y]
    exact ⟨(wi_ne (by decide)).trans wi_eq, wi_eq⟩)
  have st : lsE (es ++ [(sgP t n j, rule)]) = lsE es → K (.inl none) σ := fun y => k _ (BrF.refl _) (by
    unfold RuC
    rw [y]
    exact ru)
  have live : (lsE es = none ∧ σ.i 40 6 = 0) ∨ ∃ v : Nat × Nat, lsE es = some v ∧ σ.i 40 5 = Int32.ofNat v.1 ∧ σ.i 40 6 = Int32.ofNat v.2 ∧ v.1 ≤ n ∧ 1 ≤ v.2 ∧ v.2 ≤ 7 := by
    unfold RuC at ru
    cases hl : lsE es with
    | none =>
      rw [hl] at ru
      exact Or.inl ⟨rfl, ru.2⟩
    | some v =>
      rw [hl] at ru
      have := he v (lsE_mem es v hl)
      exact Or.inr ⟨v, rfl, ru.1, ru.2, this.1, this.2.1, this.2.2⟩
  refine ⟨ib_oN (by omega) (by omega), fun z => wr ?_, fun z => ⟨fun z2 => wr ?_, fun z2 => ⟨fun z3 => st ?_, fun z3 => ⟨fun z4 => st ?_, fun z4 => wr ?_⟩⟩⟩⟩
  · rcases live with ⟨l1, l2⟩ | ⟨v, l1, l2, l3, l4, l5, l6⟩
    · rw [lsE_snoc, l1]
      rfl
    · rw [l3] at z
      have := (oN_eq (b := 0) (by omega) (by decide)).mp z
      omega
  · rcases live with ⟨l1, l2⟩ | ⟨v, l1, l2, l3, l4, l5, l6⟩
    · exact absurd l2 z
    · rw [l2, oN_lt (by omega) (by omega)] at z2
      rw [lsE_snoc, l1, lsA_some]
      exact if_pos (Or.inl z2)
  · rcases live with ⟨l1, l2⟩ | ⟨v, l1, l2, l3, l4, l5, l6⟩
    · exact absurd l2 z
    · rw [l2, oN_lt (by omega) (by omega)] at z2
      rw [l2, oN_eq (by omega) (by omega)] at z3
      rw [lsE_snoc, l1, lsA_some]
      exact if_neg (by dsimp only; omega)
  · rcases live with ⟨l1, l2⟩ | ⟨v, l1, l2, l3, l4, l5, l6⟩
    · exact absurd l2 z
    · rw [l2, oN_eq (by omega) (by omega)] at z3
      rw [l3, oN_le (by omega) (by omega)] at z4
      rw [lsE_snoc, l1, lsA_some]
      exact if_neg (by dsimp only; omega)
  · rcases live with ⟨l1, l2⟩ | ⟨v, l1, l2, l3, l4, l5, l6⟩
    · exact absurd l2 z
    · rw [l2, oN_eq (by omega) (by omega)] at z3
      rw [l3, oN_le (by omega) (by omega)] at z4
      rw [lsE_snoc, l1, lsA_some]
      exact if_pos (by dsimp only; omega)
theorem h_break {j rule : Nat} (hB : HB t n N B C W σ) (h : BdS t n N vs R σ) (hj : j ≤ N) (hr : 1 ≤ rule ∧ rule ≤ 7) (k : ∀ τ, HdF σ τ → BdS t n N vs (hev [(sgP t n j, rule)] R) τ → K (.inl none) τ) : C_X7_breakRule_0 Z (d + 1) σ (Int32.ofNat rule) (Int32.ofNat j) K := by
  rcases R with q | ⟨p, es⟩
  · refine h_brkD hB hj (fun τ g => k τ g.hd ?_)
    obtain ⟨⟨h3, h4, h5⟩, h6, h7⟩ := h
    have gi := g.2.2.2
    exact ⟨⟨(gi 40 3 (by omega)).trans h3, (gi 40 4 (by omega)).trans h4, h5⟩, (gi 28 3 (by omega)).trans h6, h7⟩
  · obtain ⟨⟨⟨i, i1, i2, i3⟩, h4⟩, ⟨v1, v2, v3⟩, ru, he⟩ := h
    refine h_brkL hB ru he hj hr (fun τ g ru2 => k τ g.hd ?_)
    have gi := g.2.2.2
    refine ⟨⟨⟨i, i1, (gi 40 3 (by omega)).trans i2, i3⟩, (gi 40 4 (by omega)).trans h4⟩, ⟨(gi 28 3 (by omega)).trans v1, v2, v3.keep (fun k _ => by rw [g.2.2.1]; exact ⟨rfl, rfl⟩)⟩, ru2, fun e he' => ?_⟩
    rcases List.mem_append.mp he' with q | q
    · exact he e q
    · rw [List.mem_singleton] at q
      rw [q]
      exact ⟨sgP_le t n j, hr⟩
theorem h_known {s o : Nat} {ns : List (List Int32)} {f : List Int32 → Option Nat} (hx : xJ0 0 (Int32.ofNat s) (Int32.ofNat o)) (hs : s < 4) (hb : o + ns.length ≤ 72) (hN : ∀ τ R, HB t n N B C W τ → BdS t n N vs R τ → τ.i 28 s = Int32.ofNat ns.length ∧ ∀ p es, R = .inr (p, es) → NmS ns o τ) (hf : ∀ nm, f nm = lstI ns nm) (hB : HB t n N B C W σ) (h : BdS t n N vs R σ) (k : ∀ τ (v : Int), -1 ≤ v → v < ns.length → (∀ p es, R = .inr (p, es) → tyS t n p = 2 → v = idx (f (nmS t n p))) → HdF σ τ → BdS t n N vs (hkn t n f R) τ → K (.inl (some (.int (Int32.ofInt v)))) τ) : C_X7_takeKnownName_0 Z (d + 2) σ (Int32.ofNat s) K := by
  obtain ⟨i, i1, i2, i3, i4⟩ := h.pos hB
  refine T_X7_takeKnownName_0 hB.1 (h_take (y := 2) (by decide) hB h (fun τ g1 hτ => ?_))
  have hB1 := hB.hd g1
  have hB1' := hB1
  obtain ⟨fx, sa, ss, ⟨nn, hN1⟩, -⟩ := hB1'
  have hc := sa.2.2.2.2.2.2.2.2.2
  refine ⟨_, sa.2.2.1.1, _, sa.2.2.1.2, ?_⟩
  rw [i2, oN_t (by omega), (ss.2.1 i i1).2.2.1]
  refine ⟨ib_oN (by omega) (by omega), _, sa.2.2.2.1.1, _, sa.2.2.2.1.2, ib_oN (by omega) (by omega), ?_⟩
  rw [(ss.2.1 i i1).2.2.2]
  obtain ⟨n1, n2⟩ := hN τ _ hB1 hτ
  have nonneg : ∀ v : Int, -1 ≤ v → v < ns.length → ((0 : Int32) ≤ Int32.ofInt v ↔ 0 ≤ v) := fun v v1 v2 => by
    rw [Int32.le_iff_toInt_le, oI_i (by omega) (by omega)]
    exact Iff.rfl
  have dead : ∀ q, BdS t n N vs (.inl q) τ → hkn t n f R = .inl q → (∀ p es, R = .inr (p, es) → tyS t n p ≠ 2) → ∀ v : Int, -1 ≤ v → v < ns.length → (0 ≤ Int32.ofInt v → K (.inl (some (.int (Int32.ofInt v)))) τ) ∧ (¬ 0 ≤ Int32.ofInt v → C_X7_breakRule_0 Z (d + 1) τ 3 (Int32.ofNat i) (yN K fun τ16 => K (.inl (some (.int (Int32.ofInt v)))) τ16)) := fun q hq e no v v1 v2 => by
    have go : ∀ υ, HdF σ υ → BdS t n N vs (.inl q) υ → K (.inl (some (.int (Int32.ofInt v)))) υ := fun υ gυ hυ => k υ v v1 v2 (fun p es r1 r2 => absurd r2 (no p es r1)) gυ (by rw [e]; exact hυ)
    exact ⟨fun _ => go τ g1 hq, fun _ => h_break (rule := 3) hB1 hq i1 (by decide) (fun υ gυ hυ => go υ (g1.tr gυ) hυ)⟩
  rcases R with q | ⟨p, es⟩
  · exact cl_findX fx hx hs n1 hb (fun v v1 v2 => dead q hτ rfl (fun p es r => by cases r) v v1 v2)
  · have e := i4 p es rfl
    by_cases z : tyS t n p = 2
    · have et : htk t n 2 (.inr (p, es)) = .inr (nxS t n p, es) := by
        unfold htk hbd
        exact if_pos z
      rw [et] at hτ n2
      have hh : hdS t n (sgP t n i) = nmH (nmS t n p) := by
        unfold hdS
        rw [e, if_pos (Or.inl z)]
      have ht : tlS t n (sgP t n i) = nmT (nmS t n p) := by
        unfold tlS
        rw [e, if_pos (Or.inl z)]
      rw [hh, ht]
      refine cl_findN fx hx hs n1 hb (n2 _ _ rfl) (nm_ok z) ?_
      have ek : hkn t n f (.inr (p, es)) = hev (if f (nmS t n p) = none then [(p, 3)] else []) (.inr (nxS t n p, es)) := by
        unfold hkn hev hbd
        exact if_pos z
      have v1 : -1 ≤ idx (lstI ns (nmS t n p)) := by
        cases lstI ns (nmS t n p) with
        | none => decide
        | some j => show (-1 : Int) ≤ (j : Int); omega
      have v2 : idx (lstI ns (nmS t n p)) < ns.length := by
        cases hj : lstI ns (nmS t n p) with
        | none => show (-1 : Int) < _; omega
        | some j =>
          have := lstI_lt hj
          show (j : Int) < _
          omega
      have vp : ∀ p' es', (.inr (p, es) : HR) = .inr (p', es') → tyS t n p' = 2 → idx (lstI ns (nmS t n p)) = idx (f (nmS t n p')) := fun p' es' r _ => by
        cases r
        rw [hf]
      refine ⟨fun y => k τ _ v1 v2 vp g1 ?_, fun y => h_break (rule := 3) hB1 hτ i1 (by decide) (fun υ gυ hυ => k υ _ v1 v2 vp (g1.tr gυ) ?_)⟩
      · rw [nonneg _ v1 v2] at y
        rw [ek, hf, if_neg (fun r => by rw [r] at y; exact absurd y (by decide))]
        unfold hev hbd
        dsimp only
        rw [List.append_nil]
        exact hτ
      · rw [nonneg _ v1 v2] at y
        have r : lstI ns (nmS t n p) = none := by
          cases hj : lstI ns (nmS t n p) with
          | none => rfl
          | some j =>
            rw [hj] at y
            exact absurd (show (0 : Int) ≤ (j : Int) from by omega) y
        rw [e] at hυ
        rw [ek, hf, if_pos r]
        exact hυ
    · have et : htk t n 2 (.inr (p, es)) = .inl p := by
        unfold htk hbd
        exact if_neg z
      rw [et] at hτ
      have ek : hkn t n f (.inr (p, es)) = .inl p := by
        unfold hkn hbd
        exact if_neg z
      exact cl_findX fx hx hs n1 hb (fun v v1 v2 => dead p hτ ek (fun p' es' r => by cases r; exact z) v v1 v2)
/-- the sorts of names -/
theorem h_kind (hB : HB t n N B C W σ) (h : BdS t n N vs R σ) {w : Int} (k : ∀ τ (v : Int), -1 ≤ v → v < W.1.length → (∀ p es, R = .inr (p, es) → tyS t n p = 2 → v = idx ((enW W.1 W.2.1 W.2.2.1 w).1 (nmS t n p))) → HdF σ τ → BdS t n N vs (hkn t n (enW W.1 W.2.1 W.2.2.1 w).1 R) τ → K (.inl (some (.int (Int32.ofInt v)))) τ) : C_X7_takeKnownName_0 Z (d + 2) σ 0 K := by
  obtain ⟨l1, l2, l3, l4, -⟩ := hB.2.2.2.2.2.2.1
  have el : (W.1.map (·.1)).length = W.1.length := List.length_map ..
  exact h_known (s := 0) (o := 0) (ns := W.1.map (·.1)) xJ_0.1 (by decide) (by omega) (fun τ R hτ _ => ⟨by rw [el]; exact hτ.2.2.2.2.2.2.1.1, fun _ _ _ => hτ.2.2.2.2.2.2.1.2.2.1⟩) (fun nm => fi_lst l4 nm) hB h (fun τ v v1 v2 => k τ v v1 (by omega))
theorem h_call (hB : HB t n N B C W σ) (h : BdS t n N vs R σ) {w : Int} (k : ∀ τ (v : Int), -1 ≤ v → v < W.2.1.length → (∀ p es, R = .inr (p, es) → tyS t n p = 2 → v = idx ((enW W.1 W.2.1 W.2.2.1 w).2.1 (nmS t n p))) → HdF σ τ → BdS t n N vs (hkn t n (enW W.1 W.2.1 W.2.2.1 w).2.1 R) τ → K (.inl (some (.int (Int32.ofInt v)))) τ) : C_X7_takeKnownName_0 Z (d + 2) σ 1 K := by
  obtain ⟨l1, l2, l3, l4, -⟩ := hB.2.2.2.2.2.2.2.1
  have el : (W.2.1.map (·.1)).length = W.2.1.length := List.length_map ..
  exact h_known (s := 1) (o := 24) (ns := W.2.1.map (·.1)) xJ_0.2.1 (by decide) (by omega) (fun τ R hτ _ => ⟨by rw [el]; exact hτ.2.2.2.2.2.2.2.1.1, fun _ _ _ => hτ.2.2.2.2.2.2.2.1.2.2.1⟩) (fun nm => fi_lst l4 nm) hB h (fun τ v v1 v2 => k τ v v1 (by omega))
theorem h_layer (hB : HB t n N B C W σ) (h : BdS t n N vs R σ) {w : Int} (k : ∀ τ (v : Int), -1 ≤ v → v < W.2.2.1.length → (∀ p es, R = .inr (p, es) → tyS t n p = 2 → v = idx ((enW W.1 W.2.1 W.2.2.1 w).2.2.1 (nmS t n p))) → HdF σ τ → BdS t n N vs (hkn t n (enW W.1 W.2.1 W.2.2.1 w).2.2.1 R) τ → K (.inl (some (.int (Int32.ofInt v)))) τ) : C_X7_takeKnownName_0 Z (d + 2) σ 2 K := by
  obtain ⟨l1, l2, l3, l4⟩ := hB.2.2.2.2.2.2.2.2
  exact h_known (s := 2) (o := 48) (ns := W.2.2.1) xJ_0.2.2.1 (by decide) (by omega) (fun τ R hτ _ => ⟨hτ.2.2.2.2.2.2.2.2.1, fun _ _ _ => hτ.2.2.2.2.2.2.2.2.2.2.1⟩) (fun nm => fi_lst l4 nm) hB h k
theorem h_var (hB : HB t n N B C W σ) (h : BdS t n N vs R σ) (hj : ∀ nm ∈ vs, nm ≠ []) (k : ∀ τ (v : Int), -1 ≤ v → v < vs.length → (∀ p es, R = .inr (p, es) → tyS t n p = 2 → v = idx (lstI vs (nmS t n p))) → HdF σ τ → BdS t n N vs (hkn t n (lstI vs) R) τ → K (.inl (some (.int (Int32.ofInt v)))) τ) : C_X7_takeKnownName_0 Z (d + 2) σ 3 K := by
  have vl : ∀ τ R, BdS t n N vs R τ → (τ.i 28 3 = Int32.ofNat vs.length ∧ vs.length ≤ 16) ∧ ∀ p es, R = .inr (p, es) → NmS vs 56 τ := fun τ R hτ => by
    rcases R with q | ⟨p, es⟩
    · exact ⟨hτ.2, fun p es e => by cases e⟩
    · exact ⟨⟨hτ.2.1.1, hτ.2.1.2.1⟩, fun _ _ _ => hτ.2.1.2.2.nm hj⟩
  have := (vl σ R h).1.2
  exact h_known (s := 3) (o := 56) (ns := vs) (f := lstI vs) xJ_0.2.2.2 (by decide) (by omega) (fun τ R _ hτ => ⟨(vl τ R hτ).1.1, (vl τ R hτ).2⟩) (fun _ => rfl) hB h k
end HST2

/-! THE REFERENCE: rebuild(), whole -/
def mkW (ks : List Knd) : List Nat := (List.range ks.length).filter fun k => !(((ks[k]?).map (·.2.1)).getD false)
def gnW (ms : List (Mtd × Bool)) (m : Nat) : Int32 := match ms[m - 1]? with
  | some x => if x.2 = true then 1 else 0
  | none => 1
def mcW (ms : List (Mtd × Bool)) (m : Nat) : Nat := match ms[m - 1]? with
  | some x => x.1.1.toNat
  | none => 0
def kdW (ms : List (Mtd × Bool)) (m i : Nat) : Nat := match ms[m - 1]? with
  | some x => (x.1.2.2.2.1.getD i (0, false, 0)).1.toNat
  | none => 0
def plW (cs : List Cal) (c : Nat) : Nat := ((cs[c]?).map (·.2.1)).getD 0
/-- the kinds of all specs are told -/
def WfS (ks : List Knd) (ms : List (Mtd × Bool)) : Prop := ∀ x ∈ ms, ∀ s ∈ x.1.2.2.2.1, 0 ≤ s.1 ∧ s.1 < ks.length
/-- what rebuild() makes -/
def RbR (ks : List Knd) (cs : List Cal) (ms : List (Mtd × Bool)) (τ : Sg) : Prop :=
  (∀ a b, a < ks.length → b < ks.length → τ.i (1880 + 1 + a) b = if b ∈ rwW ks 1 a then 1 else 0) ∧
  (τ.i 0 41 = Int32.ofNat (mkW ks).length ∧ ∀ (i y : Nat), (mkW ks)[i]? = some y → τ.i 1932 i = Int32.ofNat y) ∧
  MnS τ cs.length (mcW ms) (gnW ms) (ms.length + 1) ∧
  (∀ c i k M, c < cs.length → i < 3 → k < ks.length → 1 ≤ M → M ≤ 128 → (st2 τ (fitA c i k) M = true ↔ M < ms.length + 1 ∧ gnW ms M = 0 ∧ mcW ms M = c ∧ i < plW cs c ∧ kdW ms M i ∈ rwW ks 1 k)) ∧
  ThS τ cs.length (mcW ms) (gnW ms) (ms.length + 1) ∧
  (∀ c i, c < cs.length → i < 3 → τ.l (2071 + 1 + c) i = orL (fun y => τ.l (fitA c i y) 0) (mkW ks) ∧ τ.l (2096 + 1 + c) i = orL (fun y => τ.l (fitA c i y) 1) (mkW ks))
/-- what rebuild() leaves as it was -/
def FrRb (σ τ : Sg) : Prop := τ.sh = σ.sh ∧ τ.r = σ.r ∧ (∀ a k, ¬ (1881 ≤ a ∧ a < 1905) → ¬ (1930 ≤ a ∧ a ≤ 1932) → a ≠ 2069 → ¬ (a = 0 ∧ k = 41) → τ.i a k = σ.i a k) ∧ ∀ a, ¬ (55 ≤ a ∧ a < 2121) → τ.l a = σ.l a
section RB5
variable {Z : zT} {d : Nat} {σ : Sg} {K : kS} {ks : List Knd} {cs : List Cal} {ls : List (List Int32)} {ms : List (Mtd × Bool)} {lst : List Nat} {b : Nat}
theorem mk_eq (ks : List Knd) (bare : Nat → Int32) (hB : ∀ (k : Nat) x, ks[k]? = some x → bare k = if x.2.1 = true then 1 else 0) : mkL bare ks.length = mkW ks := by
  unfold mkL mkW
  refine List.filter_congr fun k hk => ?_
  rw [List.mem_range] at hk
  have e := List.getElem?_eq_getElem hk
  rw [hB k _ e, e]
  show decide ((if (ks[k]).2.1 = true then (1 : Int32) else 0) = 0) = !((ks[k]).2.1)
  cases (ks[k]).2.1 <;> decide
theorem FrRb.fx {τ : Sg} (h : FrRb σ τ) (F : FX ΦR σ.sh σ.r) : FX ΦR τ.sh τ.r := by
  rw [h.1, h.2.1]
  exact F
theorem orL_congr {f g : Nat → Int64} {l : List Nat} (h : ∀ y ∈ l, f y = g y) : orL f l = orL g l := by
  have key : ∀ (l : List Nat) (a : Int64), (∀ y ∈ l, f y = g y) → l.foldl (fun a y => a ||| f y) a = l.foldl (fun a y => a ||| g y) a := by
    intro l
    induction l with
    | nil => intro a _; rfl
    | cons x l ih =>
      intro a h
      rw [List.foldl_cons, List.foldl_cons, h x (List.mem_cons_self ..)]
      exact ih _ (fun y hy => h y (List.mem_cons_of_mem _ hy))
  exact key l 0 h
theorem rf_rebuild (hd : 6 ≤ d) (F : FX ΦR σ.sh σ.r) (H : W3 ks cs ls σ) (e6 : σ.i 0 6 = Int32.ofNat ms.length) (h120 : ms.length ≤ 120) (HM : MsL ms cs σ lst b) (hS : WfS ks ms) (hK : ∀ τ, FX ΦR τ.sh τ.r → FrRb σ τ → RbR ks cs ms τ → (∀ c, c < cs.length → τ.i 1931 c = -1) → (∀ k, k < 8192 → τ.i 2069 k = -1) → K (.inl none) τ) : B_X23_rebuild_0 Z d σ K := by
  obtain ⟨d, rfl⟩ : ∃ e, d = e + 4 := ⟨d - 4, by omega⟩
  have hkn := H.1.2.1
  have hcn := H.2.1.2.1
  have kd : ∀ k, k < ks.length → ∃ x, ks[k]? = some x ∧ Kd1 σ k x := fun k hk => ⟨_, List.getElem?_eq_getElem hk, H.1.2.2 k _ (List.getElem?_eq_getElem hk)⟩
  refine rb_first (d := d + 1) (kn := ks.length) (R1 := rwW ks 1) (bare := fun k => σ.i (kdA k) 1) F hkn.2 H.1.1 (fun k hk => ?_) (fun _ _ => rfl) (fun τ1 F1 G1 B1 e41 m41 => ?_)
  · obtain ⟨x, hx, hq⟩ := kd k hk
    rw [rw_get hx]
    exact (hq.2.2.2.2.2 1 (by omega)).1
  · have emk := mk_eq ks (fun k => σ.i (kdA k) 1) (fun k x hx => (H.1.2.2 k x hx).2.1)
    rw [emk] at e41 m41
    have g1 : ∀ a k, ¬ (1881 ≤ a ∧ a < 1905) → a ≠ 1932 → ¬ (a = 0 ∧ k = 41) → τ1.i a k = σ.i a k := fun a k a1 a2 a3 => G1.2.2.2 a k a1 a2 a3
    have cn1 : τ1.i 0 5 = Int32.ofNat cs.length := (g1 0 5 (by omega) (by decide) (by decide)).trans H.2.1.1
    have kn1 : τ1.i 0 4 = Int32.ofNat ks.length := (g1 0 4 (by omega) (by decide) (by decide)).trans H.1.1
    refine rb_zero (d := d + 3) (kn := ks.length) (cn := cs.length) F1 hkn.2 hcn kn1 cn1 (fun τ2 F2 G2 z2f z2m => ?_)
    have g2 : ∀ a, a ≠ 1930 → a ≠ 1931 → τ2.i a = τ1.i a := G2.2.2.1
    have gx : ∀ (m : Nat), 1 ≤ m → m ≤ ms.length → ∃ x, ms[m - 1]? = some x ∧ Mt1 σ lst b cs (m - 1) x := fun m m1 m2 => ⟨_, List.getElem?_eq_getElem (by omega), HM (m - 1) _ (List.getElem?_eq_getElem (by omega))⟩
    have low : ∀ a k, 2193 ≤ a → a < 3365 → τ2.i a k = σ.i a k := fun a k a1 a2 => by
      rw [g2 a (by omega) (by omega)]
      exact g1 a k (by omega) (by omega) (by omega)
    have eA : ∀ m, 1 ≤ m → 2501 + 4 * (m - 1) = 2497 + 4 * m := fun m hm => by omega
    have hMt : MtK τ2 ks.length cs.length ms.length (mcW ms) (gnW ms) (plW cs) (kdW ms) (fun k y => decide (τ2.i (1880 + 1 + k) y ≠ 0)) := by
      refine ⟨by rw [g2 0 (by decide) (by decide)]; exact kn1, by rw [g2 0 (by decide) (by decide), g1 0 6 (by omega) (by decide) (by decide)]; exact e6, fun m m1 m2 => ?_, fun m m1 m2 hg => ?_, fun k y _ _ => ?_⟩
      · obtain ⟨x, hx, hq⟩ := gx m m1 m2
        have q10 := hq.2.2.2.2.2.2.1
        rw [eA m m1] at q10
        show τ2.i (2497 + 4 * m) 10 = _
        rw [low _ _ (by omega) (by omega), q10]
        unfold gnW
        rw [hx]
      · obtain ⟨x, hx, hq⟩ := gx m m1 m2
        obtain ⟨⟨k, cl, c1, c2, c3⟩, q0, -, -, -, -, -, qS, -⟩ := hq
        rw [eA m m1] at q0 qS
        have hk := (List.getElem?_eq_some_iff.mp c2).1
        have emc : mcW ms m = k := by
          unfold mcW
          rw [hx]
          dsimp only
          rw [c1]
          rfl
        have epl : plW cs k = cl.2.1 := by
          unfold plW
          rw [c2]
          rfl
        obtain ⟨-, ⟨p1, p2, p3⟩, -⟩ := H.2.1.2.2 k cl c2
        rw [emc, epl]
        refine ⟨hk, ?_, p2, ?_, fun i hi => ?_⟩
        · show τ2.i (2497 + 4 * m) 0 = _
          rw [low _ _ (by omega) (by omega), q0, c1]
          rfl
        · rw [low _ _ (by omega) (by omega)]
          exact p3
        · obtain ⟨s, hs⟩ : ∃ s, x.1.2.2.2.1[i]? = some s := ⟨_, List.getElem?_eq_getElem (by omega)⟩
          have ws := hS x (List.mem_of_getElem? hx) s (List.mem_of_getElem? hs)
          have ekd : kdW ms m i = s.1.toNat := by
            unfold kdW
            rw [hx]
            dsimp only
            rw [List.getD_eq_getElem?_getD, hs]
            rfl
          rw [ekd]
          refine ⟨by omega, ?_⟩
          show τ2.i (2497 + 4 * m + 1) i = _
          rw [low _ _ (by omega) (by omega), (qS i s hs).1]
          obtain ⟨y, hy⟩ : ∃ y : Nat, s.1 = (y : Int) := ⟨s.1.toNat, by omega⟩
          rw [hy]
          rfl
      · show _ ↔ decide (τ2.i (1880 + 1 + k) y ≠ 0) = false
        rw [decide_eq_false_iff_not]
        exact Decidable.not_not.symm
    have z1 : MnS τ2 cs.length (mcW ms) (gnW ms) 1 := by
      intro c M hc h1 h2
      obtain ⟨w1, w2, -⟩ := z2m c hc
      refine ⟨fun z => ?_, fun z => by omega⟩
      unfold st2 at z
      rcases (by omega : (M - 1) / 64 = 0 ∨ (M - 1) / 64 = 1) with q | q
      · rw [q, w1] at z
        unfold tb at z
        simp at z
      · rw [q, w2] at z
        unfold tb at z
        simp at z
    have z2 : FtS τ2 ks.length cs.length (mcW ms) (gnW ms) (plW cs) (kdW ms) (fun k y => decide (τ2.i (1880 + 1 + k) y ≠ 0)) 1 0 0 := by
      intro c i k M hc hi hk h1 h2
      refine ⟨fun z => ?_, fun z => by omega⟩
      have w : ∀ j, j < 2 → τ2.l (fitA c i k) j = 0 := fun j hj => z2f c i k j (by omega) hi hk hj (Or.inl hc)
      unfold st2 at z
      rcases (by omega : (M - 1) / 64 = 0 ∨ (M - 1) / 64 = 1) with q | q
      · rw [q, w 0 (by omega)] at z
        unfold tb at z
        simp at z
      · rw [q, w 1 (by omega)] at z
        unfold tb at z
        simp at z
    have z3 : ThS τ2 cs.length (mcW ms) (gnW ms) 1 := by
      intro c hc
      rw [(z2m c hc).2.2.1]
      rfl
    refine rb_mt (d := d + 3) F2 hkn.2 hcn h120 hMt z1 z2 z3 (fun τ3 F3 G3 M3 T3 H3 => ?_)
    obtain ⟨G3, G31⟩ := G3
    have g3 : ∀ a, a ≠ 1930 → a ≠ 1931 → τ3.i a = τ2.i a := G3.2.2.1
    have e413 : τ3.i 0 41 = Int32.ofNat (mkW ks).length := by
      rw [g3 0 (by decide) (by decide), g2 0 (by decide) (by decide)]
      exact e41
    have hml : (mkW ks).length ≤ 24 := by
      unfold mkW
      have := List.length_filter_le (fun k => !(((ks[k]?).map (·.2.1)).getD false)) (List.range ks.length)
      rw [List.length_range] at this
      omega
    have hmk : ∀ (j y : Nat), (mkW ks)[j]? = some y → τ3.i 1932 j = Int32.ofNat y ∧ y < 24 := by
      intro j y hj
      have hy : y < ks.length := by
        have := (List.mem_filter.mp (List.mem_of_getElem? hj)).1
        exact List.mem_range.mp this
      refine ⟨?_, by omega⟩
      rw [g3 _ (by decide) (by decide), g2 _ (by decide) (by decide)]
      exact m41 j y hj
    refine rb_any (d := d + 3) F3 hcn (by rw [g3 0 (by decide) (by decide), g2 0 (by decide) (by decide)]; exact cn1) e413 hml hmk (fun τ4 F4 G4 A4 => ?_)
    refine rf_forget (d := d + 2) F4 (fun τ5 F5 G5 f5 => ?_)
    have e5i : ∀ a, a ≠ 2069 → τ5.i a = τ4.i a := G5.2.2.2
    have e5l : τ5.l = τ4.l := G5.2.1
    have e4i : τ4.i = τ3.i := G4.2.2.1
    have e4l : ∀ a, ¬ (2072 ≤ a ∧ a < 2096) → ¬ (2097 ≤ a ∧ a < 2121) → τ5.l a = τ3.l a := fun a a1 a2 => by
      rw [e5l]
      exact G4.2.2.2 a a1 a2
    have e5n : ∀ a k, ¬ (1881 ≤ a ∧ a < 1905) → ¬ (1930 ≤ a ∧ a ≤ 1932) → a ≠ 2069 → ¬ (a = 0 ∧ k = 41) → τ5.i a k = σ.i a k := fun a k a1 a2 a3 a4 => by
      rw [e5i a a3, e4i, g3 a (by omega) (by omega), g2 a (by omega) (by omega)]
      exact g1 a k a1 (by omega) a4
    have hst : ∀ A M, ¬ (2072 ≤ A ∧ A < 2096) → ¬ (2097 ≤ A ∧ A < 2121) → st2 τ5 A M = st2 τ3 A M := fun A M a1 a2 => by
      unfold st2
      rw [e4l A a1 a2]
    refine hK τ5 F5 ⟨by rw [G5.1, G4.1, G3.1, G2.1, G1.1], by rw [G5.2.2.1, G4.2.1, G3.2.1, G2.2.1, G1.2.2.1], e5n, fun a ha => ?_⟩ ⟨fun a b' ha hb => ?_, ⟨?_, fun i y hy => ?_⟩, fun c M hc h1 h2 => ?_, fun c i k M hc hi hk h1 h2 => ?_, fun c hc => ?_, fun c i hc hi => ?_⟩ (fun c hc => ?_) f5
    · rw [e4l a (by omega) (by omega), G3.2.2.2 a (by omega) (by omega), G2.2.2.2 a (by omega) (by omega), G1.2.1]
    · rw [e5i _ (by omega), e4i, g3 _ (by omega) (by omega), g2 _ (by omega) (by omega)]
      exact B1 a b' (Or.inl ⟨ha, hb⟩)
    · rw [e5i 0 (by decide), e4i]
      exact e413
    · rw [e5i 1932 (by decide), e4i]
      exact (hmk i y hy).1
    · rw [hst _ _ (by omega) (by omega)]
      exact M3 c M hc h1 h2
    · rw [hst (fitA c i k) M (by show ¬ (2072 ≤ 55 + 1 + 76 * c + 1 + 25 * i + 1 + k ∧ _); omega) (by show ¬ (2097 ≤ 55 + 1 + 76 * c + 1 + 25 * i + 1 + k ∧ _); omega), T3 c i k M hc hi hk h1 h2]
      constructor
      · rintro ⟨q1, q2, q3, q4, q5⟩
        have qm : M < ms.length + 1 := by omega
        refine ⟨qm, q2, q3, q4, ?_⟩
        have hkd : kdW ms M i < ks.length := by
          obtain ⟨x, hx, hq⟩ := gx M h1 (by omega)
          obtain ⟨⟨k', cl, c1, c2, c3⟩, -⟩ := hq
          have emc : mcW ms M = k' := by
            unfold mcW
            rw [hx]
            dsimp only
            rw [c1]
            rfl
          have epl : plW cs k' = cl.2.1 := by
            unfold plW
            rw [c2]
            rfl
          rw [← q3, emc, epl] at q4
          obtain ⟨s, hs⟩ : ∃ s, x.1.2.2.2.1[i]? = some s := ⟨_, List.getElem?_eq_getElem (by omega)⟩
          have ws := hS x (List.mem_of_getElem? hx) s (List.mem_of_getElem? hs)
          unfold kdW
          rw [hx]
          dsimp only
          rw [List.getD_eq_getElem?_getD, hs]
          show s.1.toNat < _
          omega
        have := of_decide_eq_true q5
        rw [g2 _ (by omega) (by omega), B1 k (kdW ms M i) (Or.inl ⟨hk, hkd⟩)] at this
        refine Classical.byContradiction fun z => this ?_
        rw [if_neg z]
      · rintro ⟨q1, q2, q3, q4, q5⟩
        refine ⟨Or.inl q1, q2, q3, q4, decide_eq_true ?_⟩
        have hkd : kdW ms M i < ks.length := by
          obtain ⟨x, hx, hq⟩ := kd k hk
          rw [rw_get hx] at q5
          have := (hq.2.2.2.2.2 1 (by omega)).2 _ q5
          omega
        rw [g2 _ (by omega) (by omega), B1 k (kdW ms M i) (Or.inl ⟨hk, hkd⟩), if_pos q5]
        decide
    · rw [e5i 1930 (by decide), e4i]
      exact H3 c hc
    · have ea := A4 c i (Or.inl ⟨hc, hi⟩)
      have ef : ∀ y ∈ mkW ks, ∀ j, τ5.l (fitA c i y) j = τ3.l (fitA c i y) j := fun y hy j => by
        have hy2 : y < ks.length := List.mem_range.mp (List.mem_filter.mp hy).1
        rw [e4l (fitA c i y) (by show ¬ (2072 ≤ 55 + 1 + 76 * c + 1 + 25 * i + 1 + y ∧ _); omega) (by show ¬ (2097 ≤ 55 + 1 + 76 * c + 1 + 25 * i + 1 + y ∧ _); omega)]
      rw [e5l, ea.1, ea.2, ← e5l]
      exact ⟨orL_congr fun y hy => (ef y hy 0).symm, orL_congr fun y hy => (ef y hy 1).symm⟩
    · rw [e5i 1931 (by decide), e4i, G31]
      exact (z2m c hc).2.2.2
end RB5

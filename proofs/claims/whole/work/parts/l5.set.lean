/-! THE CLASS: sets, what is put into them -/
section SETD
variable {Z : zT} {d u : Nat} {V V' : Nat × Nat × Nat × Nat} {σ τ υ : Sg} {K : kS} {S : List (Int64 × Int64)} {x : Int64 × Int64}
/-- what working with the set may write: V its rows -/
def seE (V : Nat × Nat × Nat × Nat) (a : Nat) : Prop := a = 56 ∨ a = V.2.1 ∨ a = V.2.2.1 ∨ a = V.2.2.2
/-- other rows, but the set's numbers -/
def S6F (σ τ : Sg) : Prop := ∀ k, k ≠ 11 → k ≠ 12 → τ.i 56 k = σ.i 56 k
theorem SeA.xf {E : Nat → Prop} (A : SeA σ V) (g : XF E σ τ) : SeA τ V := by
  unfold SeA
  rw [g.1, g.2.1]
  exact A
theorem SeA.lt (A : SeA σ V) : V.2.1 < σ.sh.length ∧ V.2.2.1 < σ.sh.length ∧ V.2.2.2 < σ.sh.length := ⟨(List.getElem?_eq_some_iff.mp A.1.2).1, (List.getElem?_eq_some_iff.mp A.2.1.2).1, (List.getElem?_eq_some_iff.mp A.2.2.1.2).1⟩
theorem SeA.ne (A : SeA σ V) : V.2.2.2 ≠ V.2.1 ∧ V.2.2.2 ≠ V.2.2.1 := by
  refine ⟨fun q => ?_, fun q => ?_⟩
  · have := A.1.2
    rw [← q, A.2.2.1.2] at this
    cases this
  · have := A.2.1.2
    rw [← q, A.2.2.1.2] at this
    cases this
theorem SeA.n6 (A : SeA σ V) : 56 ≠ V.2.1 ∧ 56 ≠ V.2.2.1 ∧ 56 ≠ V.2.2.2 := by
  obtain ⟨-, -, -, -, h1, h2, h3, -⟩ := A
  omega
theorem SeA.ev (A : SeA σ V) : V.1 % 2 = 0 := by
  obtain ⟨e, h1, h2, h3⟩ := A.2.2.2.2.2.2.2
  rw [h1, show e = (e - 1) + 1 by omega, Nat.pow_succ, Nat.mul_mod_left]
theorem cl_emptySet (F : FX ΦC σ.sh σ.r) (H : SetC σ V u S) (hu : u + 1 < 2147483648) (kk : ∀ τ, XF (seE V) σ τ → S6F σ τ → SetC τ V (u + 1) [] → K (.inl none) τ) : C_X3_emptySet_0 Z (d + 1) σ K := by
  obtain ⟨A, ⟨h1, h2⟩, h3, ⟨h4, h5⟩, h6, h7⟩ := H
  have n6 := A.n6
  refine T_X3_emptySet_0 F ?_
  rw [h1, oN_1]
  have g : XF (seE V) σ ((σ.wi 56 11 (Int32.ofNat (u + 1))).wi 56 12 0) := ((XF.refl _ _).wi (Or.inl rfl)).wi (Or.inl rfl)
  have e10 : ((σ.wi 56 11 (Int32.ofNat (u + 1))).wi 56 12 0).i V.2.2.2 = σ.i V.2.2.2 := funext fun j => (wi_ne (by omega)).trans (wi_ne (by omega))
  refine kk _ g (fun k q1 q2 => (wi_ne (by omega)).trans (wi_ne (by omega))) ⟨A.xf g, ⟨(wi_ne (by omega)).trans (wi_at ..), hu⟩, fun p hp => ?_, ⟨wi_at .., Nat.zero_le _⟩, List.nodup_nil, fun _ => ht_nil (fun p hp => ?_)⟩
  · rw [e10]
    obtain ⟨w, w1, w2⟩ := h3 p hp
    exact ⟨w, by omega, w2⟩
  · rw [e10]
    obtain ⟨w, w1, w2⟩ := h3 p hp
    rw [w2, oN_eq (by omega) hu]
    omega
/-- putting x at its place -/
theorem SetC.put {p : Nat} (A : SeA σ V) (hu : σ.i 56 11 = Int32.ofNat u) (H : HtS V.1 hsC (fun p => σ.i V.2.2.2 p = Int32.ofNat u) (fun p => (σ.l V.2.1 p, σ.l V.2.2.1 p)) S) (g : SfP V.1 hsC (fun p => σ.i V.2.2.2 p = Int32.ofNat u) (fun p => (σ.l V.2.1 p, σ.l V.2.2.1 p)) x p) (hR : 0 < V.1) : ((σ.i V.2.2.2 p = Int32.ofNat u → x ∈ S) ∧ (¬ σ.i V.2.2.2 p = Int32.ofNat u → x ∉ S)) ∧ HtS V.1 hsC (fun q => (((σ.wi V.2.2.2 p (Int32.ofNat u)).wl V.2.1 p x.1).wl V.2.2.1 p x.2).i V.2.2.2 q = Int32.ofNat u) (fun q => ((((σ.wi V.2.2.2 p (Int32.ofNat u)).wl V.2.1 p x.1).wl V.2.2.1 p x.2).l V.2.1 q, (((σ.wi V.2.2.2 p (Int32.ofNat u)).wl V.2.1 p x.1).wl V.2.2.1 p x.2).l V.2.2.1 q)) (if pD (x ∈ S) = true then S else x :: S) := by
  have n89 := A.2.2.2.1
  have f1 : (((σ.wi V.2.2.2 p (Int32.ofNat u)).wl V.2.1 p x.1).wl V.2.2.1 p x.2).l V.2.1 p = x.1 := by
    rw [wl_ne (fun z => n89 z.1), wl_eq]
  have f2 : (((σ.wi V.2.2.2 p (Int32.ofNat u)).wl V.2.1 p x.1).wl V.2.2.1 p x.2).l V.2.2.1 p = x.2 := wl_eq
  have o1 : (((σ.wi V.2.2.2 p (Int32.ofNat u)).wl V.2.1 p x.1).wl V.2.2.1 p x.2).i V.2.2.2 p = Int32.ofNat u := wi_at ..
  have oq : ∀ q, q ≠ p → (((σ.wi V.2.2.2 p (Int32.ofNat u)).wl V.2.1 p x.1).wl V.2.2.1 p x.2).i V.2.2.2 q = σ.i V.2.2.2 q := fun q hq => wi_ne (fun z => hq z.2)
  have fq : ∀ q, q ≠ p → ((((σ.wi V.2.2.2 p (Int32.ofNat u)).wl V.2.1 p x.1).wl V.2.2.1 p x.2).l V.2.1 q, (((σ.wi V.2.2.2 p (Int32.ofNat u)).wl V.2.1 p x.1).wl V.2.2.1 p x.2).l V.2.2.1 q) = (σ.l V.2.1 q, σ.l V.2.2.1 q) := fun q hq => by
    rw [wl_ne (fun z => hq z.2), wl_ne (fun z => hq z.2), wl_ne (fun z => hq z.2), wl_ne (fun z => hq z.2)]
    rfl
  refine ⟨⟨fun ho => (ht_in H g hR ho).1, fun ho => ht_out H g ho⟩, ?_⟩
  by_cases ho : σ.i V.2.2.2 p = Int32.ofNat u
  · obtain ⟨i1, i2⟩ := ht_in H g hR ho
    rw [if_pos (pD_iff.mpr i1)]
    refine ht_cg H (fun q => ?_) (fun q => ?_)
    · show _
      by_cases e : q = p
      · rw [e, o1]
        exact ⟨fun _ => ho, fun _ => rfl⟩
      · rw [oq q e]
    · show _
      by_cases e : q = p
      · rw [e, f1, f2]
        exact i2.symm
      · exact fq q e
  · have i1 := ht_out H g ho
    rw [if_neg (fun z => i1 (pD_iff.mp z))]
    refine ht_add H g ho o1 (fun q hq => ?_) ?_ fq
    · show _
      rw [oq q hq]
    · show _
      rw [f1, f2]
theorem cl_addToSet (F : FX ΦC σ.sh σ.r) (H : SetC σ V u S) (hu1 : 1 ≤ u) (hS : 2 * S.length < V.1) (kk : ∀ τ, XF (seE V) σ τ → S6F σ τ → SetC τ V u (if pD (x ∈ S) = true then S else x :: S) → K (.inl none) τ) : C_X3_addToSet_0 Z (d + 2) σ x.1 x.2 K := by
  obtain ⟨A, ⟨h1, h2⟩, h3, ⟨h4, h5⟩, h6, h7⟩ := H
  have n6 := A.n6
  have nn := A.ne
  have hp := A.p
  have A' := A
  have ev := A.ev
  obtain ⟨⟨r8, s8⟩, ⟨r9, s9⟩, ⟨r10, s10⟩, -⟩ := A
  refine T_X3_addToSet_0 F (cl_spotFor F A' h1 (h7 hu1) (by omega) (fun p pl sf => ?_))
  obtain ⟨⟨i1, i2⟩, hT⟩ := SetC.put A' h1 (h7 hu1) sf (by omega)
  refine ⟨V.2.2.2, r10, V.1, s10, ib_oN pl (by omega), ?_⟩
  rw [oN_t (by omega), h1]
  refine ⟨fun ho => ?_, fun ho => ⟨V.2.2.2, r10, V.1, s10, ib_oN pl (by omega), V.2.1, r8, V.1, s8, ib_oN pl (by omega), V.2.2.1, r9, V.1, s9, ib_oN pl (by omega), ?_⟩⟩
  · refine kk σ (XF.refl _ _) (fun _ _ _ => rfl) ?_
    rw [if_pos (pD_iff.mpr (i1 ho))]
    exact ⟨A', ⟨h1, h2⟩, h3, ⟨h4, h5⟩, h6, h7⟩
  · have no := i2 ho
    rw [if_neg (fun z => no (pD_iff.mp z))] at hT kk
    have e12 : (σ.wi V.2.2.2 p (Int32.ofNat u)).i 56 12 = Int32.ofNat S.length := (wi_ne (by omega)).trans h4
    rw [e12, oN_1]
    have g : XF (seE V) σ ((((σ.wi V.2.2.2 p (Int32.ofNat u)).wl V.2.1 p x.1).wl V.2.2.1 p x.2).wi 56 12 (Int32.ofNat (S.length + 1))) := ((((XF.refl _ _).wi (Or.inr (Or.inr (Or.inr rfl)))).wl (Or.inr (Or.inl rfl))).wl (Or.inr (Or.inr (Or.inl rfl)))).wi (Or.inl rfl)
    have er : ∀ q, ((((σ.wi V.2.2.2 p (Int32.ofNat u)).wl V.2.1 p x.1).wl V.2.2.1 p x.2).wi 56 12 (Int32.ofNat (S.length + 1))).i V.2.2.2 q = (((σ.wi V.2.2.2 p (Int32.ofNat u)).wl V.2.1 p x.1).wl V.2.2.1 p x.2).i V.2.2.2 q := fun q => wi_ne (by omega)
    refine kk _ g (fun k q1 q2 => (wi_ne (by omega)).trans (wi_ne (by omega))) ⟨A'.xf g, ⟨(wi_ne (by omega)).trans ((wi_ne (by omega)).trans h1), h2⟩, fun q hq => ?_, ⟨wi_at .., by rw [List.length_cons]; omega⟩, List.nodup_cons.mpr ⟨no, h6⟩, fun _ => ht_cg hT (fun q => by rw [er]) (fun q => rfl)⟩
    rw [er]
    by_cases e : q = p
    · rw [e]
      exact ⟨u, Nat.le_refl _, wi_at ..⟩
    · obtain ⟨w, w1, w2⟩ := h3 q hq
      exact ⟨w, w1, (wi_ne (fun z => e z.2)).trans w2⟩
/-- the old ones are put into the new rows -/
theorem mr_63 (hu : σ.i 56 11 = Int32.ofNat u) (F : FX ΦC σ.sh σ.r) (A : SeA σ V) (b8 b9 b10 R : Nat) (s8 : σ.sh[b8]? = some (Sh.arr 1 R)) (s9 : σ.sh[b9]? = some (Sh.arr 1 R)) (s10 : σ.sh[b10]? = some (Sh.arr 0 R)) (hR : R ≤ 65536) (n8 : b8 ≠ V.2.1 ∧ b8 ≠ V.2.2.1) (n9 : b9 ≠ V.2.1 ∧ b9 ≠ V.2.2.1) (n10 : b10 ≠ V.2.2.2) (u2 : u < 2147483648) (hS : S.length < V.1) (T : List (Int64 × Int64)) (hT : T.Nodup) (hTS : T.length < V.1) (mT : ∀ y, y ∈ T ↔ ∃ i, i < R ∧ σ.i b10 i = Int32.ofNat u ∧ (σ.l b8 i, σ.l b9 i) = y) (kk : ∀ τ, XF (seE V) σ τ → τ.i 56 = σ.i 56 → (∀ p, p < V.1 → (∃ w, w ≤ u ∧ τ.i V.2.2.2 p = Int32.ofNat w)) → HtS V.1 hsC (fun p => τ.i V.2.2.2 p = Int32.ofNat u) (fun p => (τ.l V.2.1 p, τ.l V.2.2.1 p)) T → K (.inl none) τ) : ∀ (n i : Nat) (τ : Sg) (S : List (Int64 × Int64)), i + n = R → XF (seE V) σ τ → τ.i 56 = σ.i 56 → (∀ p, p < V.1 → (∃ w, w ≤ u ∧ τ.i V.2.2.2 p = Int32.ofNat w)) → S.Nodup → (∀ y, y ∈ S ↔ ∃ j, j < i ∧ σ.i b10 j = Int32.ofNat u ∧ (σ.l b8 j, σ.l b9 j) = y) → HtS V.1 hsC (fun p => τ.i V.2.2.2 p = Int32.ofNat u) (fun p => (τ.l V.2.1 p, τ.l V.2.2.1 p)) S → C_X3_makeRoomInSet_63 Z (d + 2) τ b8 b9 b10 (Int32.ofNat i) K := by
  have n6 := A.n6
  have nn := A.ne
  have hp := A.p
  have b6 : ∀ a, (a = b8 ∨ a = b9) → a ≠ 56 := fun a ha q => by
    have : σ.sh[56]? = some _ := F.s (a := 56) t0_56
    rcases ha with e | e
    · rw [← q, e, s8] at this
      cases this
    · rw [← q, e, s9] at this
      cases this
  have c6 : b10 ≠ 56 := fun q => by
    have : σ.sh[56]? = some _ := F.s (a := 56) t0_56
    rw [← q, s10] at this
    cases this
  have x8 : b8 ≠ V.2.2.2 := fun q => by
    have := A.2.2.1.2
    rw [← q, s8] at this
    cases this
  have x9 : b9 ≠ V.2.2.2 := fun q => by
    have := A.2.2.1.2
    rw [← q, s9] at this
    cases this
  have y8 : b10 ≠ V.2.1 ∧ b10 ≠ V.2.2.1 := by
    refine ⟨fun q => ?_, fun q => ?_⟩
    · have := A.1.2
      rw [← q, s10] at this
      cases this
    · have := A.2.1.2
      rw [← q, s10] at this
      cases this
  intro n
  induction n with
  | zero =>
    intro i τ S hi g g6 hm hN hS' H
    have ei : i = R := by omega
    subst ei
    refine T_X3_makeRoomInSet_63 (g.fx F) ⟨i, by rw [g.1]; exact s10, fun _ => ?_, fun z => absurd (Int32.le_refl _) z⟩
    exact kk τ g g6 hm (ht_mem H hN hT (fun y => (hS' y).trans (mT y).symm))
  | succ n ih =>
    intro i τ S hi g g6 hm hN hS' H
    have e10 : τ.i b10 = σ.i b10 := (g.2.2 b10 (by unfold seE; omega)).1
    have e8 : τ.l b8 = σ.l b8 := (g.2.2 b8 (by have := b6 b8 (Or.inl rfl); unfold seE; omega)).2
    have e9 : τ.l b9 = σ.l b9 := (g.2.2 b9 (by have := b6 b9 (Or.inr rfl); unfold seE; omega)).2
    have u6 : τ.i 56 11 = Int32.ofNat u := by rw [g6]; exact hu
    have sl : S.length < V.1 := by
      refine Nat.lt_of_le_of_lt (nd_le S T hN (fun y hy => ?_)) hTS
      obtain ⟨j, j1, j2⟩ := (hS' y).mp hy
      exact (mT y).mpr ⟨j, by omega, j2⟩
    have grow : ∀ y, (∃ j, j < i + 1 ∧ σ.i b10 j = Int32.ofNat u ∧ (σ.l b8 j, σ.l b9 j) = y) ↔ (∃ j, j < i ∧ σ.i b10 j = Int32.ofNat u ∧ (σ.l b8 j, σ.l b9 j) = y) ∨ (σ.i b10 i = Int32.ofNat u ∧ (σ.l b8 i, σ.l b9 i) = y) := fun y => by
      constructor
      · rintro ⟨j, j1, j2⟩
        by_cases e : j = i
        · rw [e] at j2
          exact Or.inr j2
        · exact Or.inl ⟨j, by omega, j2⟩
      · rintro (⟨j, j1, j2⟩ | j2)
        · exact ⟨j, by omega, j2⟩
        · exact ⟨i, by omega, j2⟩
    refine T_X3_makeRoomInSet_63 (g.fx F) ⟨R, by rw [g.1]; exact s10, fun z => ?_, fun _ => ⟨ib_oN (by omega) (by omega), ?_⟩⟩
    · rw [oN_le (by omega) (by omega)] at z
      omega
    · rw [oN_t (by omega), e10, e8, e9, u6, oN_1]
      refine ⟨fun z => ?_, fun z => ⟨R, by rw [g.1]; exact s8, ib_oN (by omega) (by omega), R, by rw [g.1]; exact s9, ib_oN (by omega) (by omega), ?_⟩⟩
      · refine ih (i + 1) τ S (by omega) g g6 hm hN (fun y => ?_) H
        rw [grow, hS']
        exact ⟨fun q => Or.inl q, fun q => q.elim id (fun q => absurd q.1 z)⟩
      · have Aτ := A.xf g
        refine cl_spotFor (x := (σ.l b8 i, σ.l b9 i)) (g.fx F) Aτ u6 H sl (fun p pl sf => ?_)
        obtain ⟨⟨i1, i2⟩, hX⟩ := SetC.put Aτ u6 H sf (by omega)
        obtain ⟨⟨r8, t8⟩, ⟨r9, t9⟩, ⟨r10, t10⟩, -⟩ := Aτ
        refine ⟨V.2.2.2, r10, V.1, t10, ib_oN pl (by omega), V.2.1, r8, R, by rw [g.1]; exact s8, ib_oN (by omega) (by omega), V.1, t8, ib_oN pl (by omega), V.2.2.1, r9, R, by rw [g.1]; exact s9, ib_oN (by omega) (by omega), V.1, t9, ib_oN pl (by omega), ?_⟩
        rw [oN_t (by omega), u6, e8]
        have eb9 : ((τ.wi V.2.2.2 p (Int32.ofNat u)).wl V.2.1 p (σ.l b8 i)).l b9 i = σ.l b9 i := by
          rw [wl_ne (fun z => n9.1 z.1), wi_l, e9]
        rw [eb9]
        refine ih (i + 1) _ (if pD ((σ.l b8 i, σ.l b9 i) ∈ S) = true then S else (σ.l b8 i, σ.l b9 i) :: S) (by omega) (((g.wi (Or.inr (Or.inr (Or.inr rfl)))).wl (Or.inr (Or.inl rfl))).wl (Or.inr (Or.inr (Or.inl rfl)))) ?_ (fun q hq => ?_) ?_ (fun y => ?_) hX
        · rw [← g6]
          exact funext fun k => wi_ne (by omega)
        · by_cases e : q = p
          · rw [e]
            exact ⟨u, Nat.le_refl _, wi_at ..⟩
          · obtain ⟨w, w1, w2⟩ := hm q hq
            exact ⟨w, w1, (wi_ne (fun z => e z.2)).trans w2⟩
        · by_cases q : (σ.l b8 i, σ.l b9 i) ∈ S
          · rw [if_pos (pD_iff.mpr q)]
            exact hN
          · rw [if_neg (fun z => q (pD_iff.mp z))]
            exact List.nodup_cons.mpr ⟨q, hN⟩
        · rw [grow, ← hS']
          by_cases q : (σ.l b8 i, σ.l b9 i) ∈ S
          · rw [if_pos (pD_iff.mpr q)]
            exact ⟨fun w => Or.inl w, fun w => w.elim id (fun w => by rw [← w.2]; exact q)⟩
          · rw [if_neg (fun z => q (pD_iff.mp z)), List.mem_cons]
            exact ⟨fun w => w.elim (fun w => Or.inr ⟨z, w.symm⟩) Or.inl, fun w => w.elim Or.inr (fun w => Or.inl w.2.symm)⟩
end SETD

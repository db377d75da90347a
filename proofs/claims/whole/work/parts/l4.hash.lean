/-! PURE: a table with free places -/
section HTAB
variable {α : Type} {R : Nat} {h : α → Nat} {o o' : Nat → Prop} {f f' : Nat → α} {S : List α} {x : α} {p : Nat}
def HtS (R : Nat) (h : α → Nat) (o : Nat → Prop) (f : Nat → α) (S : List α) : Prop := ∃ Q : List Nat, Q.length ≤ S.length ∧ (∀ p, p < R → o p → p ∈ Q ∧ f p ∈ S) ∧ ∀ x ∈ S, ∃ j, f ((h x + j) % R) = x ∧ ∀ i, i ≤ j → o ((h x + i) % R)
/-- where a search for x ends -/
def SfP (R : Nat) (h : α → Nat) (o : Nat → Prop) (f : Nat → α) (x : α) (p : Nat) : Prop := ∃ i, p = (h x + i) % R ∧ (∀ j, j < i → o ((h x + j) % R) ∧ f ((h x + j) % R) ≠ x) ∧ ((o p ∧ f p = x) ∨ ¬ o p)
theorem ht_free (H : HtS R h o f S) (hS : S.length < R) (x : α) : ∃ n, n < R ∧ ¬ o ((h x + n) % R) := by
  obtain ⟨Q, q1, q2, -⟩ := H
  refine Classical.byContradiction fun hno => ?_
  have hall : ∀ p, p < R → p ∈ Q := fun p hp => by
    refine (q2 p hp (Classical.byContradiction fun z => hno ⟨(p + (R - h x % R)) % R, Nat.mod_lt _ (by omega), ?_⟩)).1
    have e : (h x + (p + (R - h x % R)) % R) % R = p := by
      have m1 := Nat.mod_lt (h x) (show 0 < R by omega)
      rw [Nat.add_mod, Nat.mod_mod]
      have e2 : (h x % R + (p + (R - h x % R)) % R) % R = (h x % R + (p + (R - h x % R))) % R := by
        rw [Nat.add_mod (h x % R), Nat.mod_mod, Nat.mod_mod, ← Nat.add_mod, Nat.add_mod (h x % R), Nat.mod_mod, ← Nat.add_mod]
      rw [e2, show h x % R + (p + (R - h x % R)) = p + R by omega, Nat.add_mod_right, Nat.mod_eq_of_lt hp]
    rw [e]
    exact z
  have := pig R Q hall
  omega
theorem ht_in (H : HtS R h o f S) (g : SfP R h o f x p) (hR : 0 < R) (ho : o p) : x ∈ S ∧ f p = x := by
  obtain ⟨Q, q1, q2, q3⟩ := H
  obtain ⟨i, g1, g2, g3⟩ := g
  rcases g3 with g3 | g3
  · have := (q2 p (by rw [g1]; exact Nat.mod_lt _ hR) ho).2
    rw [g3.2] at this
    exact ⟨this, g3.2⟩
  · exact absurd ho g3
theorem ht_out (H : HtS R h o f S) (g : SfP R h o f x p) (ho : ¬ o p) : x ∉ S := fun hin => by
  obtain ⟨Q, q1, q2, q3⟩ := H
  obtain ⟨i, g1, g2, g3⟩ := g
  obtain ⟨j, j1, j2⟩ := q3 _ hin
  by_cases hji : j < i
  · exact (g2 j hji).2 j1
  · have := j2 i (by omega)
    rw [← g1] at this
    exact ho this
theorem ht_add (H : HtS R h o f S) (g : SfP R h o f x p) (ho : ¬ o p) (o1 : o' p) (o2 : ∀ q, q ≠ p → (o' q ↔ o q)) (f1 : f' p = x) (f2 : ∀ q, q ≠ p → f' q = f q) : HtS R h o' f' (x :: S) := by
  obtain ⟨Q, q1, q2, q3⟩ := H
  obtain ⟨i, g1, g2, g3⟩ := g
  refine ⟨p :: Q, by rw [List.length_cons, List.length_cons]; omega, fun q hq oq => ?_, fun y hy => ?_⟩
  · by_cases e : q = p
    · rw [e, f1]
      exact ⟨List.mem_cons_self .., List.mem_cons_self ..⟩
    · obtain ⟨b1, b2⟩ := q2 q hq ((o2 q e).mp oq)
      rw [f2 q e]
      exact ⟨List.mem_cons_of_mem _ b1, List.mem_cons_of_mem _ b2⟩
  · rcases List.mem_cons.mp hy with e | hy
    · rw [e]
      refine ⟨i, by rw [← g1]; exact f1, fun j hj => ?_⟩
      by_cases e2 : (h x + j) % R = p
      · rw [e2]
        exact o1
      · exact (o2 _ e2).mpr (g2 j (by
          have : j ≠ i := fun q => e2 (by rw [q, g1])
          omega)).1
    · obtain ⟨j, j1, j2⟩ := q3 y hy
      have hne : ∀ i', i' ≤ j → (h y + i') % R ≠ p := fun i' hi' q => by
        have := j2 i' hi'
        rw [q] at this
        exact ho this
      refine ⟨j, by rw [f2 _ (hne j (Nat.le_refl _))]; exact j1, fun i' hi' => (o2 _ (hne i' hi')).mpr (j2 i' hi')⟩
theorem ht_cg (H : HtS R h o f S) (o2 : ∀ q, o' q ↔ o q) (f2 : ∀ q, f' q = f q) : HtS R h o' f' S := by
  have e1 : o' = o := funext fun q => propext (o2 q)
  have e2 : f' = f := funext f2
  rw [e1, e2]
  exact H
theorem ht_nil (ho : ∀ p, p < R → ¬ o p) : HtS R h o f [] := ⟨[], Nat.le_refl _, fun p hp z => absurd z (ho p hp), fun x hx => by cases hx⟩
theorem ht_mem {S' : List α} (H : HtS R h o f S) (h1 : S.Nodup) (h2 : S'.Nodup) (h3 : ∀ y, y ∈ S ↔ y ∈ S') : HtS R h o f S' := by
  obtain ⟨Q, q1, q2, q3⟩ := H
  have := nd_le S S' h1 (fun y hy => (h3 y).mp hy)
  exact ⟨Q, by omega, fun p hp op => ⟨(q2 p hp op).1, (h3 _).mp (q2 p hp op).2⟩, fun y hy => q3 y ((h3 y).mpr hy)⟩
end HTAB
/-! THE CLASS: sets of methods that were met -/
/-- how the sets' room may grow -/
def SzG (σ τ : Sg) (R R' : Nat) : Prop := szS τ.sh + 6 * R = szS σ.sh + 6 * R' ∧ 21 * τ.sh.length + R ≤ 21 * σ.sh.length + R' ∧ R ≤ R'
theorem SzG.tr {σ τ υ : Sg} {R R' R2 : Nat} (h : SzG σ τ R R') (g : SzG τ υ R' R2) : SzG σ υ R R2 := by
  unfold SzG at *
  omega
theorem SzG.refl {σ τ : Sg} {R : Nat} (h : τ.sh = σ.sh) : SzG σ τ R R := by
  unfold SzG
  rw [h]
  omega
/-- the rows of the set -/
def SeA (σ : Sg) (V : Nat × Nat × Nat × Nat) : Prop := (σ.r 56 8 = Rf.ptr V.2.1 ∧ σ.sh[V.2.1]? = some (Sh.arr 1 V.1)) ∧ (σ.r 56 9 = Rf.ptr V.2.2.1 ∧ σ.sh[V.2.2.1]? = some (Sh.arr 1 V.1)) ∧ (σ.r 56 10 = Rf.ptr V.2.2.2 ∧ σ.sh[V.2.2.2]? = some (Sh.arr 0 V.1)) ∧ V.2.1 ≠ V.2.2.1 ∧ (V.2.1 = 64 ∨ 102 ≤ V.2.1) ∧ (V.2.2.1 = 65 ∨ 102 ≤ V.2.2.1) ∧ (V.2.2.2 = 66 ∨ 102 ≤ V.2.2.2) ∧ ∃ e, V.1 = 2 ^ e ∧ 6 ≤ e ∧ e ≤ 15
def hsC (x : Int64 × Int64) : Nat := (Int64.toInt32 (((Int64.toUInt64 ((x.1 * (-7046029254386353131 : Int64)) + (x.2 * (-4417276706812531889 : Int64))) >>> ((Int32.toInt64 (40 : Int32)).toUInt64 &&& Int64.toUInt64 63)).toInt64) ^^^ ((Int64.toUInt64 ((x.1 * (-7046029254386353131 : Int64)) + (x.2 * (-4417276706812531889 : Int64))) >>> ((Int32.toInt64 (17 : Int32)).toUInt64 &&& Int64.toUInt64 63)).toInt64))).toBitVec.toNat
/-- the set: S what is in it, u its mark -/
def SetC (σ : Sg) (V : Nat × Nat × Nat × Nat) (u : Nat) (S : List (Int64 × Int64)) : Prop := SeA σ V ∧ (σ.i 56 11 = Int32.ofNat u ∧ u < 2147483648) ∧ (∀ p, p < V.1 → ∃ w, w ≤ u ∧ σ.i V.2.2.2 p = Int32.ofNat w) ∧ (σ.i 56 12 = Int32.ofNat S.length ∧ 2 * S.length ≤ V.1) ∧ S.Nodup ∧ (1 ≤ u → HtS V.1 hsC (fun p => σ.i V.2.2.2 p = Int32.ofNat u) (fun p => (σ.l V.2.1 p, σ.l V.2.2.1 p)) S)
theorem an_pow (x : Int32) {e : Nat} (he : e ≤ 30) : x &&& (Int32.ofNat (2 ^ e) - 1) = Int32.ofNat (x.toBitVec.toNat % 2 ^ e) := by
  have p2 : 2 ^ e ≤ 2 ^ 30 := Nat.pow_le_pow_right (by decide) he
  have p1 : 1 ≤ 2 ^ e := Nat.one_le_two_pow
  rw [oN_p1 p1]
  apply Int32.toBitVec_inj.mp
  rw [Int32.toBitVec_and, oN_bv, oN_bv]
  apply BitVec.eq_of_toNat_eq
  have m1 := Nat.mod_lt x.toBitVec.toNat (show 0 < 2 ^ e by omega)
  rw [BitVec.toNat_and, BitVec.toNat_ofNat, BitVec.toNat_ofNat, Nat.mod_eq_of_lt (show 2 ^ e - 1 < 2 ^ 32 by omega), Nat.mod_eq_of_lt (show x.toBitVec.toNat % 2 ^ e < 2 ^ 32 by omega), Nat.and_two_pow_sub_one_eq_mod]
section SETC
variable {Z : zT} {d u : Nat} {V V' : Nat × Nat × Nat × Nat} {σ τ υ : Sg} {K : kS} {S : List (Int64 × Int64)} {x : Int64 × Int64}
theorem SeA.p (h : SeA σ V) : 64 ≤ V.1 ∧ V.1 ≤ 32768 := by
  obtain ⟨e, h1, h2, h3⟩ := h.2.2.2.2.2.2.2
  rw [h1]
  have a : 2 ^ 6 ≤ 2 ^ e := Nat.pow_le_pow_right (by decide) h2
  have b : 2 ^ e ≤ 2 ^ 15 := Nat.pow_le_pow_right (by decide) h3
  omega
theorem sf_42 {hh : Int64 × Int64 → Nat} (F : FX ΦC σ.sh σ.r) (A : SeA σ V) (hu : σ.i 56 11 = Int32.ofNat u) (H : HtS V.1 hh (fun p => σ.i V.2.2.2 p = Int32.ofNat u) (fun p => (σ.l V.2.1 p, σ.l V.2.2.1 p)) S) (hS : S.length < V.1) (kk : ∀ p, p < V.1 → SfP V.1 hh (fun p => σ.i V.2.2.2 p = Int32.ofNat u) (fun p => (σ.l V.2.1 p, σ.l V.2.2.1 p)) x p → K (.inl (some (.int (Int32.ofNat p)))) σ) : C_X3_spotFor_42 Z (d + 1) σ x.1 x.2 (Int32.ofNat V.1) (Int32.ofNat (hh x % V.1)) 0 K := by
  have hp := A.p
  obtain ⟨⟨r8, s8⟩, ⟨r9, s9⟩, ⟨r10, s10⟩, -, -, -, -, e, he, -, he2⟩ := A
  obtain ⟨n, hn, hfree⟩ := ht_free H hS x
  have nx : ∀ i, (Int32.ofNat ((hh x + i) % V.1) + 1) &&& (Int32.ofNat V.1 - 1) = Int32.ofNat ((hh x + (i + 1)) % V.1) := fun i => by
    have m1 := Nat.mod_lt (hh x + i) (show 0 < V.1 by omega)
    rw [oN_1, he, an_pow _ (by omega), ← he, oN_bv, BitVec.toNat_ofNat, Nat.mod_eq_of_lt (show (hh x + i) % V.1 + 1 < 2 ^ 32 by omega), Nat.add_mod ((hh x + i) % V.1), Nat.mod_mod, ← Nat.add_mod, Nat.add_assoc]
  have loop : ∀ m i, n - i = m → i ≤ n → (∀ j, j < i → σ.i V.2.2.2 ((hh x + j) % V.1) = Int32.ofNat u ∧ (σ.l V.2.1 ((hh x + j) % V.1), σ.l V.2.2.1 ((hh x + j) % V.1)) ≠ x) → C_X3_spotFor_42 Z (d + 1) σ x.1 x.2 (Int32.ofNat V.1) (Int32.ofNat ((hh x + i) % V.1)) (Int32.ofNat i) K := by
    intro m
    induction m with
    | zero =>
      intro i hm hi hpre
      have ei : i = n := by omega
      subst ei
      have m1 := Nat.mod_lt (hh x + i) (show 0 < V.1 by omega)
      refine T_X3_spotFor_42 F ⟨fun z => ?_, fun _ => ⟨V.2.2.2, r10, V.1, s10, ib_oN m1 (by omega), fun _ => ?_, fun z => absurd ?_ hfree⟩⟩
      · rw [oN_le (by omega) (by omega)] at z
        omega
      · exact kk _ m1 ⟨i, rfl, hpre, Or.inr hfree⟩
      · rw [oN_t (by omega), hu] at z
        exact z
    | succ m ih =>
      intro i hm hi hpre
      have m1 := Nat.mod_lt (hh x + i) (show 0 < V.1 by omega)
      refine T_X3_spotFor_42 F ?_
      rw [oN_t (by omega), hu, nx, oN_1, oN_le (by omega) (by omega)]
      refine ⟨fun z => absurd z (by omega), fun _ => ⟨V.2.2.2, r10, V.1, s10, ib_oN m1 (by omega), fun z => kk _ m1 ⟨i, rfl, hpre, Or.inr z⟩, fun z => ⟨V.2.1, r8, V.1, s8, ib_oN m1 (by omega), fun y => ?_, fun y => ⟨V.2.2.1, r9, V.1, s9, ib_oN m1 (by omega), fun y2 => ?_, fun y2 => ?_⟩⟩⟩⟩
      · rw [cmpE] at y
        have ne : i ≠ n := fun q => by
          rw [q] at z
          exact hfree z
        refine ih (i + 1) (by omega) (by omega) (fun j hj => ?_)
        by_cases e : j = i
        · rw [e]
          exact ⟨z, fun q => y (congrArg Prod.fst q)⟩
        · exact hpre j (by omega)
      · rw [cmpE] at y2
        have ne : i ≠ n := fun q => by
          rw [q] at z
          exact hfree z
        refine ih (i + 1) (by omega) (by omega) (fun j hj => ?_)
        by_cases e : j = i
        · rw [e]
          exact ⟨z, fun q => y2 (congrArg Prod.snd q)⟩
        · exact hpre j (by omega)
      · rw [cmpE] at y y2
        refine kk _ m1 ⟨i, rfl, hpre, Or.inl ⟨z, ?_⟩⟩
        dsimp only
        rw [y, y2]
  exact loop n 0 (by omega) (Nat.zero_le _) (fun j hj => by omega)
theorem cl_spotFor (F : FX ΦC σ.sh σ.r) (A : SeA σ V) (hu : σ.i 56 11 = Int32.ofNat u) (H : HtS V.1 hsC (fun p => σ.i V.2.2.2 p = Int32.ofNat u) (fun p => (σ.l V.2.1 p, σ.l V.2.2.1 p)) S) (hS : S.length < V.1) (kk : ∀ p, p < V.1 → SfP V.1 hsC (fun p => σ.i V.2.2.2 p = Int32.ofNat u) (fun p => (σ.l V.2.1 p, σ.l V.2.2.1 p)) x p → K (.inl (some (.int (Int32.ofNat p)))) σ) : C_X3_spotFor_0 Z (d + 1) σ x.1 x.2 K := by
  have lp := sf_42 (Z := Z) (d := d) F A hu H hS kk
  obtain ⟨⟨r8, s8⟩, ⟨r9, s9⟩, ⟨r10, s10⟩, -, -, -, -, e, he, -, he2⟩ := A
  refine T_X3_spotFor_0 F ⟨V.2.2.2, r10, V.1, s10, ?_⟩
  have e0 : (Int64.toInt32 (((Int64.toUInt64 ((x.1 * (-7046029254386353131 : Int64)) + (x.2 * (-4417276706812531889 : Int64))) >>> ((Int32.toInt64 (40 : Int32)).toUInt64 &&& Int64.toUInt64 63)).toInt64) ^^^ ((Int64.toUInt64 ((x.1 * (-7046029254386353131 : Int64)) + (x.2 * (-4417276706812531889 : Int64))) >>> ((Int32.toInt64 (17 : Int32)).toUInt64 &&& Int64.toUInt64 63)).toInt64))) &&& ((Int32.ofNat V.1) - (1 : Int32)) = Int32.ofNat (hsC x % V.1) := by
    rw [he, an_pow _ (by omega)]
    unfold hsC
    rfl
  rw [e0]
  exact lp
end SETC

/-! THE CLASS: kinds; the row by way 2 -/
def dRa : List Nat → List Nat → List Nat
  | [], A => A
  | y :: ys, A => if y ∈ dRa ys A then dRa ys A else y :: dRa ys A
theorem dRa_app : ∀ (xs ys A : List Nat), dRa (xs ++ ys) A = dRa xs (dRa ys A)
  | [], ys, A => rfl
  | x :: xs, ys, A => by
    rw [List.cons_append, dRa, dRa, dRa_app xs ys A]
theorem dRa_nil : ∀ xs : List Nat, dRa xs [] = dR xs
  | [] => rfl
  | x :: xs => by
    rw [dRa, dR, dRa_nil xs]
theorem dRa_mem : ∀ (xs A : List Nat) z, z ∈ dRa xs A ↔ z ∈ xs ∨ z ∈ A
  | [], A, z => by simp [dRa]
  | y :: ys, A, z => by
    have ih := dRa_mem ys A
    rw [dRa]
    by_cases h : y ∈ dRa ys A
    · rw [if_pos h, ih z, List.mem_cons]
      constructor
      · intro q
        exact q.elim (fun q => Or.inl (Or.inr q)) Or.inr
      · intro q
        rcases q with (e | q) | q
        · rw [e]
          exact (ih y).mp h
        · exact Or.inl q
        · exact Or.inr q
    · rw [if_neg h, List.mem_cons, List.mem_cons, ih z, or_assoc]
theorem dRa_nd : ∀ (xs A : List Nat), A.Nodup → (dRa xs A).Nodup
  | [], A, h => h
  | y :: ys, A, h => by
    rw [dRa]
    by_cases q : y ∈ dRa ys A
    · rw [if_pos q]
      exact dRa_nd ys A h
    · rw [if_neg q]
      exact List.nodup_cons.mpr ⟨q, dRa_nd ys A h⟩
def dn (J : Nat) : Int32 := Int32.ofNat J + (-1)
theorem dn_s (J : Nat) : dn (J + 1) = Int32.ofNat J := oN_m1 J
theorem dn_0 : dn 0 < 0 := by decide
theorem dn_sub (J : Nat) : Int32.ofNat J - 1 = dn J := by
  unfold dn
  rw [Int32.sub_eq_add_neg]
section JN2
variable {Z : zT} {d : Nat} {σ τ υ : Sg} {K : kS} {ks : List Knd} {ps : List Nat} {k n0 : Nat} {D : List Nat}
/-- the end of kind k's row by way 2 -/
def REn (k n0 : Nat) (A : List Nat) (σ : Sg) : Prop := ∀ (i : Nat) y, A[i]? = some y → σ.i 7 ((2 * 24 + k) * 24 + (n0 - A.length + i)) = Int32.ofNat y
theorem j2_50 {j p : Nat} (X : KxS ks ps k σ) (hp : ps[j]? = some p) (hn : D.length + 1 = n0 ∧ n0 ≤ 24) (hD : ∀ y ∈ rwW ks 2 p, y ∈ D) : ∀ I (A : List Nat) (τ : Sg) (msk : Int32), I ≤ (rwW ks 2 p).length → KG 2 k σ τ → REn k n0 A τ → τ.i 7 ((2 * 24 + k) * 24) = Int32.ofNat k → BtS msk (k :: A) → A.Nodup → (∀ z ∈ A, z ∈ D) → (∀ υ msk', KG 2 k σ υ → REn k n0 (dRa ((rwW ks 2 p).take I) A) υ → υ.i 7 ((2 * 24 + k) * 24) = Int32.ofNat k → BtS msk' (k :: dRa ((rwW ks 2 p).take I) A) → (dRa ((rwW ks 2 p).take I) A).Nodup → (∀ z ∈ dRa ((rwW ks 2 p).take I) A, z ∈ D) → C_X2_joinByLast_29 Z (d + 2) υ (Int32.ofNat k) msk' (Int32.ofNat (n0 - 1 - (dRa ((rwW ks 2 p).take I) A).length)) (dn j) K) → C_X2_joinByLast_50 Z (d + 2) τ (Int32.ofNat k) msk (Int32.ofNat (n0 - 1 - A.length)) (Int32.ofNat j) (dn I) K := by
  have hk := X.2.2.1
  intro I
  induction I with
  | zero =>
    intro A τ msk hi hF hR h0 hB nd hA kk
    have X1 := X.kf (hF.kf (by omega))
    refine T_X2_joinByLast_50 X1.1 ⟨fun _ => ?_, fun z => absurd dn_0 z⟩
    rw [List.take_zero] at kk
    exact kk τ msk hF hR h0 hB nd hA
  | succ I ih =>
    intro A τ msk hi hF hR h0 hB nd hA kk
    have X1 := X.kf (hF.kf (by omega))
    obtain ⟨q1, q2, q3⟩ := X1.pp hp
    obtain ⟨r1, r2, r3, r4⟩ := rw_ok X1.2.1 (p := p) (by omega) (w := 2) (by decide)
    have hlt : I < (rwW ks 2 p).length := by omega
    obtain ⟨y, hy⟩ : ∃ y, (rwW ks 2 p)[I]? = some y := ⟨_, List.getElem?_eq_getElem hlt⟩
    have ym := List.mem_of_getElem? hy
    have yk : y < k := by
      have := (r3 y).1 ym
      omega
    have ed : (rwW ks 2 p).take (I + 1) = (rwW ks 2 p).take I ++ [y] := by
      rw [List.take_add_one, hy]
      rfl
    rw [ed, dRa_app] at kk
    refine T_X2_joinByLast_50 X1.1 ?_
    rw [dn_s, oN_t (show j < 2147483648 by omega), q1]
    refine ⟨fun z => absurd z ?_, fun _ => ⟨ib_oN (by omega) (by omega), cl_row (w := 2) X1.1 X1.2.1 (by omega) (by decide) hy ?_⟩⟩
    · rw [show (0 : Int32) = Int32.ofNat 0 from rfl, oN_lt (by omega) (by decide)]
      omega
    have bt := bt_t hB (y := y) (by omega)
    refine ⟨fun z => ?_, fun z => ?_⟩
    · have my : y ∈ A := by
        have : ¬ y ∉ k :: A := fun q => z (bt.mpr q)
        rcases List.mem_cons.mp (Decidable.not_not.mp this) with e | e
        · omega
        · exact e
      have e : dRa [y] A = A := by
        rw [dRa, dRa, if_pos my]
      rw [e] at kk
      exact ih A τ msk (by omega) hF hR h0 hB nd hA kk
    · have my2 : y ∉ A := fun q => bt.mp z (List.mem_cons_of_mem _ q)
      have e : dRa [y] A = y :: A := by
        rw [dRa, dRa, if_neg my2]
      rw [e] at kk
      have nd2 : (y :: A).Nodup := List.nodup_cons.mpr ⟨my2, nd⟩
      have hA2 : ∀ z ∈ y :: A, z ∈ D := fun z hz => (List.mem_cons.mp hz).elim (fun e => by rw [e]; exact hD y ym) (hA z)
      have ll := nd_le _ _ nd2 hA2
      rw [List.length_cons] at ll
      refine cl_putR (w := 2) (p := k) (i := n0 - 1 - A.length) X1.1 (by omega) (by decide) (by omega) ?_
      have e3 : Int32.ofNat (n0 - 1 - A.length) + (-1) = Int32.ofNat (n0 - 1 - (y :: A).length) := by
        rw [List.length_cons, show n0 - 1 - A.length = (n0 - 1 - (A.length + 1)) + 1 by omega, oN_m1]
      rw [e3]
      refine ih (y :: A) _ _ (by omega) (hF.tr (KG.wi (by omega))) (fun i w hw => ?_) ((wi_ne (by omega)).trans h0) (bt_or hB (bt_1 (k := y) (by omega)) (fun z => ?_)) nd2 hA2 kk
      · cases i with
        | zero =>
          have e : y = w := Option.some.inj hw
          subst e
          rw [List.length_cons, show n0 - (A.length + 1) + 0 = n0 - 1 - A.length by omega]
          exact wi_eq
        | succ i =>
          have hw : A[i]? = some w := hw
          rw [List.length_cons, show n0 - (A.length + 1) + (i + 1) = n0 - A.length + i by omega]
          exact (wi_ne (by omega)).trans (hR i w hw)
      · simp only [List.mem_cons, List.not_mem_nil, or_false]
        constructor
        · intro q
          rcases q with q | q | q
          · exact Or.inl (Or.inl q)
          · exact Or.inr q
          · exact Or.inl (Or.inr q)
        · intro q
          rcases q with (q | q) | q
          · exact Or.inl q
          · exact Or.inr (Or.inr q)
          · exact Or.inr (Or.inl q)
theorem j2_29 (X : KxS ks ps k σ) (hn : D.length + 1 = n0 ∧ n0 ≤ 24) (hD : ∀ p ∈ ps, ∀ y ∈ rwW ks 2 p, y ∈ D) : ∀ J (A : List Nat) (τ : Sg) (msk : Int32), J ≤ ps.length → KG 2 k σ τ → REn k n0 A τ → τ.i 7 ((2 * 24 + k) * 24) = Int32.ofNat k → BtS msk (k :: A) → A.Nodup → (∀ z ∈ A, z ∈ D) → (∀ υ, KG 2 k σ υ → REn k n0 (dRa ((ps.take J).flatMap (rwW ks 2)) A) υ → υ.i 7 ((2 * 24 + k) * 24) = Int32.ofNat k → K (.inl none) υ) → C_X2_joinByLast_29 Z (d + 2) τ (Int32.ofNat k) msk (Int32.ofNat (n0 - 1 - A.length)) (dn J) K := by
  have hk := X.2.2.1
  intro J
  induction J with
  | zero =>
    intro A τ msk hj hF hR h0 hB nd hA kk
    have X1 := X.kf (hF.kf (by omega))
    refine T_X2_joinByLast_29 X1.1 ⟨fun _ => kk τ hF hR h0, fun z => absurd dn_0 z⟩
  | succ J ih =>
    intro A τ msk hj hF hR h0 hB nd hA kk
    have X1 := X.kf (hF.kf (by omega))
    obtain ⟨p, hp⟩ : ∃ p, ps[J]? = some p := ⟨_, List.getElem?_eq_getElem (by omega)⟩
    obtain ⟨q1, q2, q3⟩ := X1.pp hp
    have ed : (ps.take (J + 1)).flatMap (rwW ks 2) = (ps.take J).flatMap (rwW ks 2) ++ rwW ks 2 p := by
      rw [List.take_add_one, hp, List.flatMap_append]
      congr 1
      exact List.flatMap_singleton ..
    rw [ed, dRa_app] at kk
    refine T_X2_joinByLast_29 X1.1 ?_
    rw [dn_s, oN_t (show J < 2147483648 by omega), q1, oN_t (by omega), (rw_at X1.2.1 (p := p) (by omega) (w := 2) (by decide)).1, dn_sub]
    refine ⟨fun z => absurd z ?_, fun _ => ⟨ib_oN (by omega) (by omega), ib_oN (by omega) (by omega), ?_⟩⟩
    · rw [show (0 : Int32) = Int32.ofNat 0 from rfl, oN_lt (by omega) (by decide)]
      omega
    refine j2_50 X hp hn (hD p (List.mem_of_getElem? hp)) _ A τ msk (Nat.le_refl _) hF hR h0 hB nd hA (fun υ msk' a1 a2 a3 a4 a5 a6 => ?_)
    rw [List.take_length] at a2 a4 a5 a6 ⊢
    exact ih _ υ msk' (by omega) a1 a2 a3 a4 a5 a6 kk
theorem cl_join2 (X : KxS ks ps k σ) (hn : D.length + 1 = n0 ∧ n0 ≤ 24) (h5 : σ.i 5 k = Int32.ofNat n0) (hD : ∀ p ∈ ps, ∀ y ∈ rwW ks 2 p, y ∈ D) (nD : D.Nodup) (hD2 : ∀ y ∈ D, ∃ p ∈ ps, y ∈ rwW ks 2 p) (kk : ∀ υ, KG 2 k σ υ → RwC 2 k (k :: dR (ps.flatMap (rwW ks 2))) υ → (dR (ps.flatMap (rwW ks 2))).length = D.length → K (.inl none) υ) : C_X2_joinByLast_0 Z (d + 2) σ (Int32.ofNat k) K := by
  have hk := X.2.2.1
  obtain ⟨p1, p2, -⟩ := X.2.2.2
  refine T_X2_joinByLast_0 X.1 (cl_putR (w := 2) (p := k) (i := 0) X.1 (by omega) (by decide) (by omega) ⟨ib_oN (by omega) (by omega), ?_⟩)
  have e5 : (σ.wi 7 ((2 * 24 + k) * 24 + 0) (Int32.ofNat k)).i 5 k = Int32.ofNat n0 := (wi_ne (by omega)).trans h5
  have e2 : (σ.wi 7 ((2 * 24 + k) * 24 + 0) (Int32.ofNat k)).i 2 4 = Int32.ofNat ps.length := (wi_ne (by omega)).trans p1
  rw [oN_t (by omega), e5, e2, dn_sub, dn_sub, show n0 = (n0 - 1) + 1 by omega, dn_s]
  refine j2_29 (D := D) (n0 := n0) X hn hD _ [] _ _ (Nat.le_refl _) (KG.wi (by omega)) (fun i y hy => by cases hy) wi_eq (bt_1 (by omega)) List.nodup_nil (fun z hz => by cases hz) (fun υ a1 a2 a3 => ?_)
  rw [List.take_length, dRa_nil] at a2
  have el : (dR (ps.flatMap (rwW ks 2))).length = D.length := by
    refine List.Perm.length_eq ((List.perm_ext_iff_of_nodup (dR_nd _) nD).mpr fun a => ?_)
    rw [dR_mem, List.mem_flatMap]
    exact ⟨fun ⟨p, h1, h2⟩ => hD p h1 a h2, fun h => hD2 a h⟩
  refine kk υ a1 (fun i y hy => ?_) el
  cases i with
  | zero =>
    have e : k = y := Option.some.inj hy
    subst e
    exact a3
  | succ i =>
    have hy : (dR (ps.flatMap (rwW ks 2)))[i]? = some y := hy
    have := a2 i y hy
    rw [el, show n0 - D.length + i = i + 1 by omega] at this
    exact this
end JN2

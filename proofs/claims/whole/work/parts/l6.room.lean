/-! THE CLASS: sets grow -/
section SETE
variable {Z : zT} {d u : Nat} {V V' : Nat × Nat × Nat × Nat} {σ τ υ : Sg} {K : kS} {S : List (Int64 × Int64)} {x : Int64 × Int64}
/-- the new rows -/
def sgN (σ : Sg) (N : Nat) : Sg := (((((σ.al (Sh.arr 1 N)).wr 56 8 (Rf.ptr σ.sh.length)).al (Sh.arr 1 N)).wr 56 9 (Rf.ptr ((σ.al (Sh.arr 1 N)).sh.length))).al (Sh.arr 0 N)).wr 56 10 (Rf.ptr ((((σ.al (Sh.arr 1 N)).wr 56 8 (Rf.ptr σ.sh.length)).al (Sh.arr 1 N)).sh.length))
theorem sgN_sh (σ : Sg) (N : Nat) : (sgN σ N).sh = σ.sh ++ [Sh.arr 1 N] ++ [Sh.arr 1 N] ++ [Sh.arr 0 N] := rfl
theorem sgN_l1 (σ : Sg) (N : Nat) : (σ.al (Sh.arr 1 N)).sh.length = σ.sh.length + 1 := List.length_append
theorem sgN_l2 (σ : Sg) (N : Nat) : (((σ.al (Sh.arr 1 N)).wr 56 8 (Rf.ptr σ.sh.length)).al (Sh.arr 1 N)).sh.length = σ.sh.length + 2 := by
  show (σ.sh ++ [Sh.arr 1 N] ++ [Sh.arr 1 N]).length = _
  rw [List.length_append, List.length_append]
  rfl
theorem sgN_i {N a : Nat} (h : a < σ.sh.length) : (sgN σ N).i a = σ.i a := funext fun k => by
  show (if a = (((σ.al (Sh.arr 1 N)).wr 56 8 (Rf.ptr σ.sh.length)).al (Sh.arr 1 N)).sh.length then 0 else if a = (σ.al (Sh.arr 1 N)).sh.length then 0 else if a = σ.sh.length then 0 else σ.i a k) = _
  rw [sgN_l2, sgN_l1, if_neg (by omega), if_neg (by omega), if_neg (by omega)]
theorem sgN_l {N a : Nat} (h : a < σ.sh.length) : (sgN σ N).l a = σ.l a := funext fun k => by
  show (if a = (((σ.al (Sh.arr 1 N)).wr 56 8 (Rf.ptr σ.sh.length)).al (Sh.arr 1 N)).sh.length then 0 else if a = (σ.al (Sh.arr 1 N)).sh.length then 0 else if a = σ.sh.length then 0 else σ.l a k) = _
  rw [sgN_l2, sgN_l1, if_neg (by omega), if_neg (by omega), if_neg (by omega)]
theorem sgN_z {N : Nat} (k : Nat) : (sgN σ N).i (σ.sh.length + 2) k = 0 := by
  show (if σ.sh.length + 2 = (((σ.al (Sh.arr 1 N)).wr 56 8 (Rf.ptr σ.sh.length)).al (Sh.arr 1 N)).sh.length then 0 else _) = _
  rw [sgN_l2, if_pos rfl]
theorem sgN_r {N a k : Nat} (h : a < σ.sh.length) : (sgN σ N).r a k = if a = 56 ∧ k = 10 then Rf.ptr (σ.sh.length + 2) else if a = 56 ∧ k = 9 then Rf.ptr (σ.sh.length + 1) else if a = 56 ∧ k = 8 then Rf.ptr σ.sh.length else σ.r a k := by
  show (if a = 56 ∧ k = 10 then Rf.ptr ((((σ.al (Sh.arr 1 N)).wr 56 8 (Rf.ptr σ.sh.length)).al (Sh.arr 1 N)).sh.length) else if a = (((σ.al (Sh.arr 1 N)).wr 56 8 (Rf.ptr σ.sh.length)).al (Sh.arr 1 N)).sh.length then Rf.nul else if a = 56 ∧ k = 9 then Rf.ptr ((σ.al (Sh.arr 1 N)).sh.length) else if a = (σ.al (Sh.arr 1 N)).sh.length then Rf.nul else if a = 56 ∧ k = 8 then Rf.ptr σ.sh.length else if a = σ.sh.length then Rf.nul else σ.r a k) = _
  rw [sgN_l2, sgN_l1, if_neg (show ¬ a = σ.sh.length + 2 by omega), if_neg (show ¬ a = σ.sh.length + 1 by omega), if_neg (show ¬ a = σ.sh.length by omega)]
theorem cl_makeRoom (F : FX ΦC σ.sh σ.r) (H : SetC σ V u S) (hu : 1 ≤ u) (hS : S.length ≤ 16383) (kk : ∀ τ V', GwF (seE V) σ τ → τ.i 56 = σ.i 56 → SzG σ τ V.1 V'.1 → (V' = V ∨ (σ.sh.length ≤ V'.2.1 ∧ σ.sh.length ≤ V'.2.2.1 ∧ σ.sh.length ≤ V'.2.2.2)) → SetC τ V' u S → 2 * S.length < V'.1 → K (.inl none) τ) : C_X3_makeRoomInSet_0 Z (d + 2) σ K := by
  have H' := H
  obtain ⟨A, ⟨h1, h2⟩, h3, ⟨h4, h5⟩, h6, h7⟩ := H
  have n6 := A.n6
  have nn := A.ne
  have hp := A.p
  have A' := A
  have lt := A.lt
  have l100 : 101 < σ.sh.length := (List.getElem?_eq_some_iff.mp (F.s (a := 101) t0_101)).1
  obtain ⟨⟨r8, s8⟩, ⟨r9, s9⟩, ⟨r10, s10⟩, n89, p8, p9, p10, e, he, he1, he2⟩ := A
  refine T_X3_makeRoomInSet_0 F ⟨V.2.2.2, r10, V.1, s10, ?_⟩
  rw [h4, oN_2, oN_le (by omega) (by omega)]
  refine ⟨fun z => ⟨V.2.1, r8, V.2.2.1, r9, V.2.2.2, r10, V.1, s10, ?_⟩, fun z => kk σ V (GwF.refl _ _) rfl (SzG.refl rfl) (Or.inl rfl) H' (by omega)⟩
  have eV : V.1 = 2 * S.length := by omega
  rw [oN_2, oN_t (by omega)]
  have nb : ¬ (Int32.ofNat (2 * V.1) < 0 ∨ 60000000 < 2 * V.1) := by
    rw [show Int32.ofNat (2 * V.1) < 0 ↔ 2 * V.1 < 0 from oN_lt (b := 0) (by omega) (by decide)]
    omega
  refine ⟨nb, nb, nb, ?_⟩
  show C_X3_makeRoomInSet_63 Z (d + 2) (sgN σ (2 * V.1)) V.2.1 V.2.2.1 V.2.2.2 (Int32.ofNat 0) K
  have gw : GwF (seE V) σ (sgN σ (2 * V.1)) := by
    refine ⟨⟨_, by rw [sgN_sh, List.append_assoc, List.append_assoc]⟩, fun a k ha q => ?_, fun a ha _ => ⟨sgN_i ha, sgN_l ha⟩⟩
    rw [sgN_r ha, if_neg (by omega), if_neg (by omega), if_neg (by omega)]
  have F1 := gw.fx F
  have hs0 : ∀ k s, (σ.sh ++ [Sh.arr 1 (2 * V.1)] ++ [Sh.arr 1 (2 * V.1)] ++ [Sh.arr 0 (2 * V.1)])[σ.sh.length + k]? = some s ↔ ([Sh.arr 1 (2 * V.1), Sh.arr 1 (2 * V.1), Sh.arr 0 (2 * V.1)])[k]? = some s := fun k s => by
    rw [List.append_assoc, List.append_assoc, List.getElem?_append_right (by omega), show σ.sh.length + k - σ.sh.length = k by omega]
    rfl
  have A1 : SeA (sgN σ (2 * V.1)) (2 * V.1, σ.sh.length, σ.sh.length + 1, σ.sh.length + 2) := by
    refine ⟨⟨?_, (hs0 0 _).mpr rfl⟩, ⟨?_, (hs0 1 _).mpr rfl⟩, ⟨?_, (hs0 2 _).mpr rfl⟩, by show σ.sh.length ≠ σ.sh.length + 1; omega, Or.inr (by show 102 ≤ σ.sh.length; omega), Or.inr (by show 102 ≤ σ.sh.length + 1; omega), Or.inr (by show 102 ≤ σ.sh.length + 2; omega), e + 1, by show 2 * V.1 = _; rw [he, Nat.pow_succ]; omega, by omega, ?_⟩
    · rw [sgN_r (by omega), if_neg (by omega), if_neg (by omega), if_pos ⟨rfl, rfl⟩]
    · rw [sgN_r (by omega), if_neg (by omega), if_pos ⟨rfl, rfl⟩]
    · rw [sgN_r (by omega), if_pos ⟨rfl, rfl⟩]
    · refine Nat.succ_le_of_lt (Nat.lt_of_not_le fun q => ?_)
      have : 2 ^ 15 ≤ 2 ^ e := Nat.pow_le_pow_right (by decide) q
      omega
  have i10 := sgN_i (N := 2 * V.1) lt.2.2
  have i8 := sgN_l (N := 2 * V.1) lt.1
  have i9 := sgN_l (N := 2 * V.1) lt.2.1
  have i6 := sgN_i (σ := σ) (N := 2 * V.1) (a := 56) (by omega)
  have zero : ∀ p, ¬ (sgN σ (2 * V.1)).i (σ.sh.length + 2) p = Int32.ofNat u := fun p q => by
    rw [sgN_z, show (0 : Int32) = Int32.ofNat 0 from rfl, oN_eq (by omega) h2] at q
    omega
  refine mr_63 (V := (2 * V.1, σ.sh.length, σ.sh.length + 1, σ.sh.length + 2)) (S := S) (by rw [i6]; exact h1) F1 A1 V.2.1 V.2.2.1 V.2.2.2 V.1 (gw.sh s8) (gw.sh s9) (gw.sh s10) (Nat.le_trans hp.2 (by decide)) (by dsimp only; omega) (by dsimp only; omega) (by dsimp only; omega) h2 (by dsimp only; omega) S h6 (by dsimp only; omega) (fun y => ?_) (fun τ g g6 hm HT => ?_) V.1 0 _ [] (by omega) (XF.refl _ _) rfl (fun p _ => ⟨0, Nat.zero_le _, sgN_z p⟩) List.nodup_nil (fun y => ⟨fun q => (by cases q), fun ⟨j, q, _⟩ => absurd q (Nat.not_lt_zero _)⟩) (ht_nil (fun p _ => zero p))
  · rw [i10, i8, i9]
    obtain ⟨Q, q1, q2, q3⟩ := h7 hu
    constructor
    · intro hy
      obtain ⟨j, j1, j2⟩ := q3 y hy
      exact ⟨(hsC y + j) % V.1, Nat.mod_lt _ (by omega), j2 j (Nat.le_refl _), j1⟩
    · rintro ⟨i, i1, i2, i3⟩
      have := (q2 i i1 i2).2
      dsimp only at this
      rw [i3] at this
      exact this
  · refine kk τ (2 * V.1, σ.sh.length, σ.sh.length + 1, σ.sh.length + 2) (gw.tr g.gf (fun a ha q => ?_)) (g6.trans i6) ?_ (Or.inr ⟨by dsimp only; omega, by dsimp only; omega, by dsimp only; omega⟩) ⟨A1.xf g, ⟨by rw [g6, i6]; exact h1, h2⟩, hm, ⟨by rw [g6, i6]; exact h4, by dsimp only; omega⟩, h6, fun _ => HT⟩ (by dsimp only; omega)
    · unfold seE at q ⊢
      dsimp only at q
      omega
    · unfold SzG
      rw [g.1, sgN_sh, szS_app, szS_app, szS_app, sz_1, sz_1, List.length_append, List.length_append, List.length_append]
      dsimp only [List.length_singleton]
      omega
end SETE

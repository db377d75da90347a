/-! THE REFERENCE'S SIGNS: words -/
/-- word j stands at place p, l letters long -/
def mt (t : Nat → Int32) (p l j : Nat) : Prop := (stA j).1 = l ∧ ∀ k, k < l → stI j k = t (p + k)
theorem stJ_xt : ∀ j ∈ stJ, hb_Xt j = true ∧ (stA j).1 < 2147483648 := by decide +kernel
theorem stE_J : ∀ j ∈ stE, j ∈ stJ := by decide +kernel
section WORD
variable {Z : zT} {d p l : Nat} {σ : Sg} {t : Nat → Int32} {K : kS}
theorem rf_here_lp (hZ : ZK Z) (hd : 12 ≤ d) (F : FX ΦR σ.sh σ.r) {j : Nat} (hj : j ∈ stJ) (hl : σ.i 0 26 = Int32.ofNat l) (hp : σ.i 0 18 = Int32.ofNat p) (hb : p + l ≤ 8192) (ht : ∀ k, k < 8192 → σ.i 37 k = t k) (hn : (stA j).1 = l) (h1 : mt t p l j → K (.inl (some (.int 1))) σ) (h0 : ¬ mt t p l j → K (.inl (some (.int 0))) σ) : ∀ m k, l - k = m → k ≤ l → (∀ i, i < k → stI j i = t (p + i)) → B_X23_isHere_15 Z (d + 1) σ (Rf.old j) (Int32.ofNat k) K
  | 0, k, hm, hk, hi => by
    have e : k = l := by omega
    subst e
    refine S_X23_isHere_15 F ⟨fun q => h1 ⟨hn, hi⟩, fun q => absurd ?_ q⟩
    rw [hl]
    exact Int32.le_refl _
  | m + 1, k, hm, hk, hi => by
    refine S_X23_isHere_15 F ⟨fun q => ?_, fun q => ⟨j, rfl, (stJ_xt j hj).1, ?_⟩⟩
    · exfalso
      rw [hl, oN_le (by omega) (by omega)] at q
      omega
    · refine st_ch hZ hj (by omega) hd F ?_
      have e : (σ.i 0 18 + Int32.ofNat k).toNatClampNeg = p + k := by
        rw [hp, oN_add, oN_t (by omega)]
      refine ⟨?_, fun q => ?_, fun q => h0 fun z => q ?_⟩
      · rw [hp, oN_add]
        exact ib_oN (by omega) (by decide)
      · rw [e, ht (p + k) (by omega)] at q
        rw [oN_1]
        refine rf_here_lp hZ hd F hj hl hp hb ht hn h1 h0 m (k + 1) (by omega) (by omega) fun i hi2 => ?_
        by_cases g : i < k
        · exact hi i g
        · rw [show i = k by omega]
          exact q
      · rw [e, ht (p + k) (by omega)]
        exact z.2 k (by omega)
theorem rf_here (hZ : ZK Z) (hd : 12 ≤ d) (F : FX ΦR σ.sh σ.r) {j : Nat} (hj : j ∈ stJ) (hl : σ.i 0 26 = Int32.ofNat l) (hp : σ.i 0 18 = Int32.ofNat p) (hb : p + l ≤ 8192) (ht : ∀ k, k < 8192 → σ.i 37 k = t k) (h1 : mt t p l j → K (.inl (some (.int 1))) σ) (h0 : ¬ mt t p l j → K (.inl (some (.int 0))) σ) : B_X23_isHere_0 Z (d + 1) σ (Rf.old j) K := by
  have hx := stJ_xt j hj
  refine S_X23_isHere_0 F ⟨j, rfl, hx.1, ?_⟩
  refine st_ln hZ hj hd F ⟨fun q => ?_, fun q => h0 fun z => q ?_⟩
  · rw [hl, oN_eq hx.2 (by omega)] at q
    exact rf_here_lp hZ hd F hj hl hp hb ht q h1 h0 l 0 rfl (by omega) (fun i h => by omega)
  · rw [hl, z.1]
/-- what word() answers -/
def wd (t : Nat → Int32) (p l : Nat) (x : Rf) : Prop := (∃ j ∈ stE, x = Rf.old j ∧ mt t p l j) ∨ (x = Rf.nul ∧ ∀ j ∈ stE, ¬ mt t p l j)
theorem stE_1 : ∀ j ∈ stE, 0 < (stA j).1 := by decide +kernel
theorem wd_no {c : Int32} (hc : t p = c) {L : List Nat} (hL : ∀ j ∈ stE, stI j 0 = c → j ∈ L) (hn : ∀ j ∈ L, ¬ mt t p l j) : wd t p l Rf.nul := by
  refine Or.inr ⟨rfl, fun j hj z => hn j (hL j hj ?_) z⟩
  have := z.2 0 (by have := stE_1 j hj; rw [z.1] at this; exact this)
  rw [this, Nat.add_zero, hc]
theorem stE_f : ∀ j ∈ stE, stI j 0 ∈ ([97, 98, 99, 100, 101, 102, 105, 107, 108, 109, 110, 111, 115, 116, 119] : List Int32) := by decide +kernel
theorem rf_word (hZ : ZK Z) (hd : 12 ≤ d) (F : FX ΦR σ.sh σ.r) (hl : σ.i 0 26 = Int32.ofNat l) (hp : σ.i 0 18 = Int32.ofNat p) (hb : p + l ≤ 8192) (hb0 : p < 8192) (ht : ∀ k, k < 8192 → σ.i 37 k = t k) (hk : ∀ x, wd t p l x → K (.inl (some (rv x))) σ) : B_X23_word_0 Z (d + 2) σ K := by
  have et : σ.i 37 ((σ.i 0 18).toNatClampNeg) = t p := by
    rw [hp, oN_t (by omega), ht p hb0]
  have here : ∀ {K : kS} (j : Nat), j ∈ stE → (mt t p l j → K (.inl (some (.int 1))) σ) → (¬ mt t p l j → K (.inl (some (.int 0))) σ) → B_X23_isHere_0 Z (d + 1) σ (Rf.old j) K := fun j hj h1 h0 => rf_here hZ hd F (stE_J j hj) hl hp hb ht h1 h0
  have yes : ∀ j, j ∈ stE → mt t p l j → K (.inl (some (.retAddr j))) σ := fun j hj h => hk (Rf.old j) (Or.inl ⟨j, hj, rfl, h⟩)
  refine S_X23_word_0 (d := d + 1) F ⟨?_, fun q => ?_, fun q => ?_, fun q => ?_, fun q => ?_, fun q => ?_, fun q => ?_, fun q => ?_, fun q => ?_, fun q => ?_, fun q => ?_, fun q => ?_, fun q => ?_, fun q => ?_, fun q => ?_, fun q => ?_, fun q0 q1 q2 q3 q4 q5 q6 q7 q8 q9 q10 q11 q12 q13 q14 => ?_⟩
  · rw [hp]
    exact ib_oN hb0 (by decide)
  · rw [et] at q
    refine here 118 (by decide) (fun h => ⟨fun z => absurd z (by decide), fun _ => yes 118 (by decide) h⟩) (fun n0 => ⟨fun _ => ?_, fun z => absurd rfl z⟩)
    refine here 120 (by decide) (fun h => ⟨fun z => absurd z (by decide), fun _ => yes 120 (by decide) h⟩) (fun n1 => ⟨fun _ => ?_, fun z => absurd rfl z⟩)
    refine here 122 (by decide) (fun h => ⟨fun z => absurd z (by decide), fun _ => yes 122 (by decide) h⟩) (fun n2 => ⟨fun _ => ?_, fun z => absurd rfl z⟩)
    refine here 124 (by decide) (fun h => ⟨fun z => absurd z (by decide), fun _ => yes 124 (by decide) h⟩) (fun n3 => ⟨fun _ => ?_, fun z => absurd rfl z⟩)
    exact hk Rf.nul (wd_no (L := [118, 120, 122, 124]) q (by decide +kernel) (List.forall_mem_cons.mpr ⟨n0, List.forall_mem_cons.mpr ⟨n1, List.forall_mem_cons.mpr ⟨n2, List.forall_mem_cons.mpr ⟨n3, fun _ h => absurd h List.not_mem_nil⟩⟩⟩⟩))
  · rw [et] at q
    refine here 126 (by decide) (fun h => ⟨fun z => absurd z (by decide), fun _ => yes 126 (by decide) h⟩) (fun n0 => ⟨fun _ => ?_, fun z => absurd rfl z⟩)
    refine here 128 (by decide) (fun h => ⟨fun z => absurd z (by decide), fun _ => yes 128 (by decide) h⟩) (fun n1 => ⟨fun _ => ?_, fun z => absurd rfl z⟩)
    refine here 130 (by decide) (fun h => ⟨fun z => absurd z (by decide), fun _ => yes 130 (by decide) h⟩) (fun n2 => ⟨fun _ => ?_, fun z => absurd rfl z⟩)
    refine here 132 (by decide) (fun h => ⟨fun z => absurd z (by decide), fun _ => yes 132 (by decide) h⟩) (fun n3 => ⟨fun _ => ?_, fun z => absurd rfl z⟩)
    exact hk Rf.nul (wd_no (L := [126, 128, 130, 132]) q (by decide +kernel) (List.forall_mem_cons.mpr ⟨n0, List.forall_mem_cons.mpr ⟨n1, List.forall_mem_cons.mpr ⟨n2, List.forall_mem_cons.mpr ⟨n3, fun _ h => absurd h List.not_mem_nil⟩⟩⟩⟩))
  · rw [et] at q
    refine here 134 (by decide) (fun h => ⟨fun z => absurd z (by decide), fun _ => yes 134 (by decide) h⟩) (fun n0 => ⟨fun _ => ?_, fun z => absurd rfl z⟩)
    exact hk Rf.nul (wd_no (L := [134]) q (by decide +kernel) (List.forall_mem_cons.mpr ⟨n0, fun _ h => absurd h List.not_mem_nil⟩))
  · rw [et] at q
    refine here 136 (by decide) (fun h => ⟨fun z => absurd z (by decide), fun _ => yes 136 (by decide) h⟩) (fun n0 => ⟨fun _ => ?_, fun z => absurd rfl z⟩)
    exact hk Rf.nul (wd_no (L := [136]) q (by decide +kernel) (List.forall_mem_cons.mpr ⟨n0, fun _ h => absurd h List.not_mem_nil⟩))
  · rw [et] at q
    refine here 138 (by decide) (fun h => ⟨fun z => absurd z (by decide), fun _ => yes 138 (by decide) h⟩) (fun n0 => ⟨fun _ => ?_, fun z => absurd rfl z⟩)
    refine here 140 (by decide) (fun h => ⟨fun z => absurd z (by decide), fun _ => yes 140 (by decide) h⟩) (fun n1 => ⟨fun _ => ?_, fun z => absurd rfl z⟩)
    exact hk Rf.nul (wd_no (L := [138, 140]) q (by decide +kernel) (List.forall_mem_cons.mpr ⟨n0, List.forall_mem_cons.mpr ⟨n1, fun _ h => absurd h List.not_mem_nil⟩⟩))
  · rw [et] at q
    refine here 142 (by decide) (fun h => ⟨fun z => absurd z (by decide), fun _ => yes 142 (by decide) h⟩) (fun n0 => ⟨fun _ => ?_, fun z => absurd rfl z⟩)
    exact hk Rf.nul (wd_no (L := [142]) q (by decide +kernel) (List.forall_mem_cons.mpr ⟨n0, fun _ h => absurd h List.not_mem_nil⟩))
  · rw [et] at q
    refine here 144 (by decide) (fun h => ⟨fun z => absurd z (by decide), fun _ => yes 144 (by decide) h⟩) (fun n0 => ⟨fun _ => ?_, fun z => absurd rfl z⟩)
    refine here 146 (by decide) (fun h => ⟨fun z => absurd z (by decide), fun _ => yes 146 (by decide) h⟩) (fun n1 => ⟨fun _ => ?_, fun z => absurd rfl z⟩)
    refine here 148 (by decide) (fun h => ⟨fun z => absurd z (by decide), fun _ => yes 148 (by decide) h⟩) (fun n2 => ⟨fun _ => ?_, fun z => absurd rfl z⟩)
    exact hk Rf.nul (wd_no (L := [144, 146, 148]) q (by decide +kernel) (List.forall_mem_cons.mpr ⟨n0, List.forall_mem_cons.mpr ⟨n1, List.forall_mem_cons.mpr ⟨n2, fun _ h => absurd h List.not_mem_nil⟩⟩⟩))
  · rw [et] at q
    refine here 150 (by decide) (fun h => ⟨fun z => absurd z (by decide), fun _ => yes 150 (by decide) h⟩) (fun n0 => ⟨fun _ => ?_, fun z => absurd rfl z⟩)
    exact hk Rf.nul (wd_no (L := [150]) q (by decide +kernel) (List.forall_mem_cons.mpr ⟨n0, fun _ h => absurd h List.not_mem_nil⟩))
  · rw [et] at q
    refine here 152 (by decide) (fun h => ⟨fun z => absurd z (by decide), fun _ => yes 152 (by decide) h⟩) (fun n0 => ⟨fun _ => ?_, fun z => absurd rfl z⟩)
    refine here 154 (by decide) (fun h => ⟨fun z => absurd z (by decide), fun _ => yes 154 (by decide) h⟩) (fun n1 => ⟨fun _ => ?_, fun z => absurd rfl z⟩)
    refine here 156 (by decide) (fun h => ⟨fun z => absurd z (by decide), fun _ => yes 156 (by decide) h⟩) (fun n2 => ⟨fun _ => ?_, fun z => absurd rfl z⟩)
    refine here 158 (by decide) (fun h => ⟨fun z => absurd z (by decide), fun _ => yes 158 (by decide) h⟩) (fun n3 => ⟨fun _ => ?_, fun z => absurd rfl z⟩)
    exact hk Rf.nul (wd_no (L := [152, 154, 156, 158]) q (by decide +kernel) (List.forall_mem_cons.mpr ⟨n0, List.forall_mem_cons.mpr ⟨n1, List.forall_mem_cons.mpr ⟨n2, List.forall_mem_cons.mpr ⟨n3, fun _ h => absurd h List.not_mem_nil⟩⟩⟩⟩))
  · rw [et] at q
    refine here 160 (by decide) (fun h => ⟨fun z => absurd z (by decide), fun _ => yes 160 (by decide) h⟩) (fun n0 => ⟨fun _ => ?_, fun z => absurd rfl z⟩)
    exact hk Rf.nul (wd_no (L := [160]) q (by decide +kernel) (List.forall_mem_cons.mpr ⟨n0, fun _ h => absurd h List.not_mem_nil⟩))
  · rw [et] at q
    refine here 162 (by decide) (fun h => ⟨fun z => absurd z (by decide), fun _ => yes 162 (by decide) h⟩) (fun n0 => ⟨fun _ => ?_, fun z => absurd rfl z⟩)
    refine here 164 (by decide) (fun h => ⟨fun z => absurd z (by decide), fun _ => yes 164 (by decide) h⟩) (fun n1 => ⟨fun _ => ?_, fun z => absurd rfl z⟩)
    refine here 166 (by decide) (fun h => ⟨fun z => absurd z (by decide), fun _ => yes 166 (by decide) h⟩) (fun n2 => ⟨fun _ => ?_, fun z => absurd rfl z⟩)
    exact hk Rf.nul (wd_no (L := [162, 164, 166]) q (by decide +kernel) (List.forall_mem_cons.mpr ⟨n0, List.forall_mem_cons.mpr ⟨n1, List.forall_mem_cons.mpr ⟨n2, fun _ h => absurd h List.not_mem_nil⟩⟩⟩))
  · rw [et] at q
    refine here 168 (by decide) (fun h => ⟨fun z => absurd z (by decide), fun _ => yes 168 (by decide) h⟩) (fun n0 => ⟨fun _ => ?_, fun z => absurd rfl z⟩)
    refine here 170 (by decide) (fun h => ⟨fun z => absurd z (by decide), fun _ => yes 170 (by decide) h⟩) (fun n1 => ⟨fun _ => ?_, fun z => absurd rfl z⟩)
    exact hk Rf.nul (wd_no (L := [168, 170]) q (by decide +kernel) (List.forall_mem_cons.mpr ⟨n0, List.forall_mem_cons.mpr ⟨n1, fun _ h => absurd h List.not_mem_nil⟩⟩))
  · rw [et] at q
    refine here 172 (by decide) (fun h => ⟨fun z => absurd z (by decide), fun _ => yes 172 (by decide) h⟩) (fun n0 => ⟨fun _ => ?_, fun z => absurd rfl z⟩)
    refine here 174 (by decide) (fun h => ⟨fun z => absurd z (by decide), fun _ => yes 174 (by decide) h⟩) (fun n1 => ⟨fun _ => ?_, fun z => absurd rfl z⟩)
    exact hk Rf.nul (wd_no (L := [172, 174]) q (by decide +kernel) (List.forall_mem_cons.mpr ⟨n0, List.forall_mem_cons.mpr ⟨n1, fun _ h => absurd h List.not_mem_nil⟩⟩))
  · rw [et] at q
    refine here 176 (by decide) (fun h => ⟨fun z => absurd z (by decide), fun _ => yes 176 (by decide) h⟩) (fun n0 => ⟨fun _ => ?_, fun z => absurd rfl z⟩)
    refine here 178 (by decide) (fun h => ⟨fun z => absurd z (by decide), fun _ => yes 178 (by decide) h⟩) (fun n1 => ⟨fun _ => ?_, fun z => absurd rfl z⟩)
    exact hk Rf.nul (wd_no (L := [176, 178]) q (by decide +kernel) (List.forall_mem_cons.mpr ⟨n0, List.forall_mem_cons.mpr ⟨n1, fun _ h => absurd h List.not_mem_nil⟩⟩))
  · rw [et] at q
    refine here 180 (by decide) (fun h => ⟨fun z => absurd z (by decide), fun _ => yes 180 (by decide) h⟩) (fun n0 => ⟨fun _ => ?_, fun z => absurd rfl z⟩)
    refine here 182 (by decide) (fun h => ⟨fun z => absurd z (by decide), fun _ => yes 182 (by decide) h⟩) (fun n1 => ⟨fun _ => ?_, fun z => absurd rfl z⟩)
    exact hk Rf.nul (wd_no (L := [180, 182]) q (by decide +kernel) (List.forall_mem_cons.mpr ⟨n0, List.forall_mem_cons.mpr ⟨n1, fun _ h => absurd h List.not_mem_nil⟩⟩))
  · rw [et] at q0 q1 q2 q3 q4 q5 q6 q7 q8 q9 q10 q11 q12 q13 q14
    refine hk Rf.nul (wd_no (c := t p) (L := []) rfl (fun j hj e => ?_) (fun _ h => absurd h List.not_mem_nil))
    have := stE_f j hj
    rw [e] at this
    simp only [List.mem_cons, List.not_mem_nil, or_false] at this
    rcases this with z | z | z | z | z | z | z | z | z | z | z | z | z | z | z
    · exact absurd z q0
    · exact absurd z q1
    · exact absurd z q2
    · exact absurd z q3
    · exact absurd z q4
    · exact absurd z q5
    · exact absurd z q6
    · exact absurd z q7
    · exact absurd z q8
    · exact absurd z q9
    · exact absurd z q10
    · exact absurd z q11
    · exact absurd z q12
    · exact absurd z q13
    · exact absurd z q14
end WORD

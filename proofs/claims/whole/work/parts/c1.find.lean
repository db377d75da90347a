/-! THE CLASS: names looked for -/
theorem skN_nm {t : Nat → Int32} {n : Nat} : ∀ m a j, a ≤ j → j < skN t n m a → nmC (t j)
  | 0, a, j, h1, h2 => absurd h2 (by show ¬ j < a; omega)
  | m + 1, a, j, h1, h2 => by
    rw [skN] at h2
    by_cases z : a < n ∧ (isLet (t a) ∨ isDig (t a))
    · rw [if_pos z] at h2
      by_cases y : j = a
      · rw [y]
        exact z.2
      · exact skN_nm m (a + 1) j (by omega) h2
    · rw [if_neg z] at h2
      omega
theorem txN_mem {t : Nat → Int32} {p l : Nat} {c : Int32} (h : c ∈ txN t p l) : ∃ k, k < l ∧ c = t (p + k) := by
  obtain ⟨k, hk, e⟩ := List.mem_iff_getElem.mp h
  have hl := txN_len t p l
  have hk' : k < l := by omega
  refine ⟨k, hk', ?_⟩
  have := txN_get t p hk'
  rw [List.getElem?_eq_getElem hk, e] at this
  exact Option.some.inj this
theorem nm_ok {t : Nat → Int32} {n p : Nat} (h : tyS t n p = 2) : (nmS t n p).length ≤ 16 ∧ ∀ c ∈ nmS t n p, nmC c := by
  have hl : lnS t n p ≤ 16 := by
    rcases ty_or t n p with q | q | q | q | q | q
    · omega
    · omega
    · exact q.2.2.2.2
    · omega
    · rcases q.2.2.2 with q' | ⟨q', q1, -, q2⟩
      · omega
      · have := (mkL2_c q' q1).2.1
        have := (mkL2_c q' q1).2.2
        have h4 : ∀ q ∈ mkL2, q.2 ≠ 2 := by decide
        exact absurd (q2.symm.trans h) (h4 q' q1)
    · exact q.2.2.2.1
  unfold nmS
  refine ⟨by rw [txN_len]; exact hl, fun c hc => ?_⟩
  obtain ⟨k, k1, k2⟩ := txN_mem hc
  rw [k2]
  unfold lnS at k1
  exact skN_nm (n := n) (n - p) p _ (Nat.le_add_right p k) (by omega)
theorem lst_none {ns : List (List Int32)} {nm : List Int32} : ∀ m, (∀ j, j < m → ns[j]? ≠ some nm) → lstK ns nm m = none
  | 0, _ => rfl
  | m + 1, h => by
    rw [lstK_succ, if_neg (h m (Nat.lt_succ_self m))]
    exact lst_none m (fun j hj => h j (by omega))
theorem lst_some {ns : List (List Int32)} {nm : List Int32} {j : Nat} (h0 : ns[j]? = some nm) : ∀ m, j < m → (∀ i, j < i → i < m → ns[i]? ≠ some nm) → lstK ns nm m = some j
  | 0, h, _ => absurd h (by omega)
  | m + 1, h, h2 => by
    rw [lstK_succ]
    by_cases z : j = m
    · rw [← z, if_pos h0]
    · rw [if_neg (h2 m (by omega) (Nat.lt_succ_self m))]
      exact lst_some h0 m (by omega) (fun i q1 q2 => h2 i q1 (by omega))
/-- where all names are different, the first is the last -/
theorem fi_lst {ns : List (List Int32)} (nd : ns.Nodup) (nm : List Int32) : ns.findIdx? (· == nm) = lstI ns nm := by
  show _ = lstK ns nm ns.length
  by_cases z : nm ∈ ns
  · obtain ⟨j, hj, e⟩ := List.mem_iff_getElem.mp z
    have e' : ns[j]? = some nm := by rw [List.getElem?_eq_getElem hj, e]
    have un : ∀ i, ns[i]? = some nm → i = j := fun i hi => by
      obtain ⟨hi', e2⟩ := List.getElem?_eq_some_iff.mp hi
      rcases Nat.lt_trichotomy i j with q | q | q
      · exact absurd (e2.trans e.symm) (List.pairwise_iff_getElem.mp nd i j hi' hj q)
      · exact q
      · exact absurd (e.trans e2.symm) (List.pairwise_iff_getElem.mp nd j i hj hi' q)
    rw [fi_some e' (fun i q q2 => by have := un i q2; omega), lst_some e' _ hj (fun i q1 q2 q3 => by have := un i q3; omega)]
  · rw [fi_none z, lst_none]
    intro j hj q
    exact z (List.mem_of_getElem? q)
section FIND
variable {Z : zT} {d : Nat} {σ : Sg} {K : kS} {s o m : Nat} {a b : Int64}
theorem xJ_0 : xJ0 0 (Int32.ofNat 0) (Int32.ofNat 0) ∧ xJ0 0 (Int32.ofNat 1) (Int32.ofNat 24) ∧ xJ0 0 (Int32.ofNat 2) (Int32.ofNat 48) ∧ xJ0 0 (Int32.ofNat 3) (Int32.ofNat 56) := by
  unfold xJ0
  exact ⟨rfl, rfl, rfl, rfl⟩
theorem xJ_1 : xJ0 1 (Int32.ofNat 0) (Int32.ofNat 24) ∧ xJ0 1 (Int32.ofNat 1) (Int32.ofNat 24) ∧ xJ0 1 (Int32.ofNat 2) (Int32.ofNat 8) ∧ xJ0 1 (Int32.ofNat 3) (Int32.ofNat 16) := by
  unfold xJ0
  exact ⟨rfl, rfl, rfl, rfl⟩
theorem cl_findA (F : FX ΦC σ.sh σ.r) (hx : xJ0 0 (Int32.ofNat s) (Int32.ofNat o)) (hs : s < 4) (hm : σ.i 28 s = Int32.ofNat m) (hb : o + m ≤ 72) (h2 : (∀ j, j < m → ¬ (σ.l 29 (o + j) = a ∧ σ.l 30 (o + j) = b)) → K (.inl (some (.int (-1)))) σ) (h3 : ∀ j, j < m → σ.l 29 (o + j) = a → σ.l 30 (o + j) = b → (∀ i, j < i → i < m → ¬ (σ.l 29 (o + i) = a ∧ σ.l 30 (o + i) = b)) → K (.inl (some (.int (Int32.ofNat j)))) σ) : C_X11_find_0 Z (d + 1) σ (Int32.ofNat s) a b K := by
  have lp : ∀ j, j ≤ m → (∀ i, j ≤ i → i < m → ¬ (σ.l 29 (o + i) = a ∧ σ.l 30 (o + i) = b)) → C_X11_find_10 Z (d + 1) σ (Int32.ofNat s) a b (Int32.ofNat j - 1) K := by
    intro j
    induction j with
    | zero =>
      intro hj hi
      refine T_X11_find_10 F ⟨fun _ => h2 (fun i q => hi i (by omega) q), fun z => absurd (by decide) z⟩
    | succ j ih =>
      intro hj hi
      have e1 : Int32.ofNat (j + 1) - 1 = Int32.ofNat j := by
        rw [oN_p1 (by omega), Nat.add_sub_cancel]
      rw [e1]
      have again : ¬ (σ.l 29 (o + j) = a ∧ σ.l 30 (o + j) = b) → C_X11_find_10 Z (d + 1) σ (Int32.ofNat s) a b (Int32.ofNat j + (-1)) K := fun q => by
        rw [i32_m1]
        refine ih (by omega) (fun i q1 q2 => ?_)
        by_cases y : i = j
        · rw [y]
          exact q
        · exact hi i (by omega) q2
      refine T_X11_find_10 F ⟨fun z => absurd z ?_, fun _ => ⟨_, hx, ?_⟩⟩
      · rw [show (0 : Int32) = Int32.ofNat 0 from rfl, oN_lt (by omega) (by decide)]
        omega
      · rw [← Int32.ofNat_add, oN_t (by omega), cmpE, cmpE]
        exact ⟨ib_oN (by omega) (by omega), fun z => again (fun q => z q.1), fun z => ⟨ib_oN (by omega) (by omega), fun z2 => again (fun q => z2 q.2), fun z2 => h3 j (by omega) z z2 (fun i q1 q2 => hi i (by omega) q2)⟩⟩
  refine T_X11_find_0 F ⟨ib_oN (by omega) (by omega), ?_⟩
  rw [oN_t (by omega), hm]
  exact lp m (Nat.le_refl _) (fun i q1 q2 => by omega)
/-- among names that are told -/
theorem cl_findN {ns : List (List Int32)} {nm : List Int32} (F : FX ΦC σ.sh σ.r) (hx : xJ0 0 (Int32.ofNat s) (Int32.ofNat o)) (hs : s < 4) (hm : σ.i 28 s = Int32.ofNat ns.length) (hb : o + ns.length ≤ 72) (hN : NmS ns o σ) (hn : nm.length ≤ 16 ∧ ∀ c ∈ nm, nmC c) (k : K (.inl (some (.int (Int32.ofInt (idx (lstI ns nm)))))) σ) : C_X11_find_0 Z (d + 1) σ (Int32.ofNat s) (nmH nm) (nmT nm) K := by
  have iff : ∀ j, j < ns.length → ((σ.l 29 (o + j) = nmH nm ∧ σ.l 30 (o + j) = nmT nm) ↔ ns[j]? = some nm) := fun j hj => by
    have e : ns[j]? = some ns[j] := List.getElem?_eq_getElem hj
    obtain ⟨q1, q2, q3⟩ := hN j _ e
    rw [q1, q2, e]
    constructor
    · intro q
      rw [nm_inj q3 hn q.1 q.2]
    · intro q
      rw [Option.some.inj q]
      exact ⟨rfl, rfl⟩
  refine cl_findA F hx hs hm hb (fun h => ?_) (fun j hj q1 q2 q3 => ?_)
  · have : lstI ns nm = none := lst_none _ (fun j hj q => h j hj ((iff j hj).mpr q))
    rw [this] at k
    exact k
  · have : lstI ns nm = some j := lst_some ((iff j hj).mp ⟨q1, q2⟩) _ hj (fun i r1 r2 r3 => q3 i r1 r2 ((iff i r2).mpr r3))
    rw [this] at k
    exact k
/-- whatever is looked for -/
theorem cl_findX (F : FX ΦC σ.sh σ.r) (hx : xJ0 0 (Int32.ofNat s) (Int32.ofNat o)) (hs : s < 4) (hm : σ.i 28 s = Int32.ofNat m) (hb : o + m ≤ 72) (k : ∀ v : Int, -1 ≤ v → v < m → K (.inl (some (.int (Int32.ofInt v)))) σ) : C_X11_find_0 Z (d + 1) σ (Int32.ofNat s) a b K := cl_findA F hx hs hm hb (fun _ => by have := k (-1) (by omega) (by omega); exact this) (fun j hj _ _ _ => k (j : Int) (by omega) (by omega))
end FIND

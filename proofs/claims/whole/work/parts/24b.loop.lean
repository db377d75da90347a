/-! loops that fill an array -/
theorem ab_take_set {α : Type} {l : List α} {k : Nat} {x : α} (hk : k < l.length) (ht : l.take k = List.replicate k x) : (l.set k x).take (k + 1) = List.replicate (k + 1) x := by
  refine List.ext_getElem? fun j => ?_
  rw [List.getElem?_take, List.getElem?_replicate]
  by_cases hj : j < k + 1
  · rw [if_pos hj, if_pos hj]
    by_cases e : k = j
    · subst e
      rw [List.getElem?_set_self hk]
    · rw [List.getElem?_set_ne e]
      have := congrArg (fun q => q[j]?) ht
      simp only [List.getElem?_take, List.getElem?_replicate, if_pos (show j < k by omega)] at this
      exact this
  · rw [if_neg hj, if_neg hj]
theorem ab_set_same {h : List ab_E} {a : Nat} {e : ab_E} (ha : h[a]? = some e) : h.set a e = h := by
  refine List.ext_getElem? fun j => ?_
  by_cases g : a = j
  · subst g
    rw [List.getElem?_set_self (List.getElem?_eq_some_iff.mp ha).1, ha]
  · rw [List.getElem?_set_ne g]
theorem ab_fin.mono {G : ab_G} {T : ab_GT} {d : Nat} {M : ab_MX} {pc : Nat} {lv : ab_L} {st : List Value} {h : List ab_E} {Q Q' : ab_RX → List ab_E → Prop} (e : ab_fin G T d M pc lv st h Q) (hq : ∀ r h', Q r h' → Q' r h') : ab_fin G T d M pc lv st h Q' := by
  obtain ⟨r, h', e, q⟩ := e
  exact ⟨r, h', e, hq _ _ q⟩
theorem ab_fin.ev {G : ab_G} {T : ab_GT} {d : Nat} {M : ab_MX} {pc : Nat} {lv : ab_L} {st : List Value} {h hF : List ab_E} {rF : ab_RX} (e : ab_fin G T d M pc lv st h (fun r h' => r = rF ∧ h' = hF)) : ab_ev G T d M pc lv st h rF hF := by
  obtain ⟨r, h', e, rfl, rfl⟩ := e
  exact e
theorem ab_i1 (k : Nat) : Int32.ofNat k + 1 = Int32.ofNat (k + 1) := (Int32.ofNat_add k 1).symm
theorem ab_ilt {k n : Nat} (hk : k < n) (hn : n < 2 ^ 31) : ¬ Int32.ofNat n ≤ Int32.ofNat k := fun q => by
  have := (Int32.ofNat_le_iff_le hn (by omega)).mp q
  omega
theorem ab_ibd {α : Type} {l : List α} {k : Nat} (hk : k < l.length) (hl : l.length < 2 ^ 31) : ¬ (Int32.ofNat k < 0 ∨ l.length ≤ (Int32.ofNat k).toNatClampNeg) := by
  rw [Int32.toNatClampNeg_ofNat_of_lt (by omega)]
  rintro (q | q)
  · have := (Int32.ofNat_lt_iff_lt (a := k) (b := 0) (by omega) (by omega)).mp q
    omega
  · omega
set_option maxRecDepth 100000 in
theorem hb_fillI_lp {G : ab_G} {T : ab_GT} {d a N : Nat} {v : Int32} (hN : N < 2 ^ 31) : ∀ (n k : Nat) (h : List ab_E) (l : List Int32), k + n = N → l.length = N → l.take k = List.replicate k v → h[a]? = some (.inr (.inl (0, .inl (l)))) → ab_fin G T d (mJ7_fill_53178, []) 5 [(2, .int (Int32.ofNat k)), (3, .int (Int32.ofNat N)), (0, .ref a), (1, .int v)] [] h (fun r h2 => r = .inl none ∧ h2 = h.set a (.inr (.inl (0, .inl (List.replicate N v))))) := by
  intro n
  induction n with
  | zero =>
    intro k h l hk hl ht ho
    refine ab_fin.s2 (i := .iload_n 2) (k := 1) (pc' := 6) (lv' := [(2, .int (Int32.ofNat k)), (3, .int (Int32.ofNat N)), (0, .ref a), (1, .int v)]) (st' := [.int (Int32.ofNat k)]) (by decide +kernel) rfl rfl ?_
    refine ab_fin.s2 (i := .iload_n 3) (k := 1) (pc' := 7) (lv' := [(2, .int (Int32.ofNat k)), (3, .int (Int32.ofNat N)), (0, .ref a), (1, .int v)]) (st' := [.int (Int32.ofNat N), .int (Int32.ofNat k)]) (by decide +kernel) rfl rfl ?_
    refine ab_fin.brT (c := Int32.ofNat N ≤ Int32.ofNat k) (i := .if_icmp .ge 13) (off := 13) (t := 20) (r := []) (by decide +kernel) rfl (by decide +kernel) (by rw [show k = N by omega]; exact Int32.le_refl _) ?_
    refine ab_fin.ret (i := .return_) (k := 1) none (by decide +kernel) rfl ⟨rfl, ?_⟩
    rw [show k = N by omega, ← hl, List.take_length] at ht
    rw [← hl, ← ht]
    exact (ab_set_same ho).symm
  | succ n ih =>
    intro k h l hk hl ht ho
    refine ab_fin.s2 (i := .iload_n 2) (k := 1) (pc' := 6) (lv' := [(2, .int (Int32.ofNat k)), (3, .int (Int32.ofNat N)), (0, .ref a), (1, .int v)]) (st' := [.int (Int32.ofNat k)]) (by decide +kernel) rfl rfl ?_
    refine ab_fin.s2 (i := .iload_n 3) (k := 1) (pc' := 7) (lv' := [(2, .int (Int32.ofNat k)), (3, .int (Int32.ofNat N)), (0, .ref a), (1, .int v)]) (st' := [.int (Int32.ofNat N), .int (Int32.ofNat k)]) (by decide +kernel) rfl rfl ?_
    refine ab_fin.brF (c := Int32.ofNat N ≤ Int32.ofNat k) (i := .if_icmp .ge 13) (off := 13) (t := 20) (pc' := 10) (r := []) (by decide +kernel) rfl (by decide +kernel) rfl (ab_ilt (by omega) hN) ?_
    refine ab_fin.s2 (i := .aload_n 0) (k := 1) (pc' := 11) (lv' := [(2, .int (Int32.ofNat k)), (3, .int (Int32.ofNat N)), (0, .ref a), (1, .int v)]) (st' := [.ref a]) (by decide +kernel) rfl rfl ?_
    refine ab_fin.s2 (i := .iload_n 2) (k := 1) (pc' := 12) (lv' := [(2, .int (Int32.ofNat k)), (3, .int (Int32.ofNat N)), (0, .ref a), (1, .int v)]) (st' := [.int (Int32.ofNat k), .ref a]) (by decide +kernel) rfl rfl ?_
    refine ab_fin.s2 (i := .iload_n 1) (k := 1) (pc' := 13) (lv' := [(2, .int (Int32.ofNat k)), (3, .int (Int32.ofNat N)), (0, .ref a), (1, .int v)]) (st' := [.int v, .int (Int32.ofNat k), .ref a]) (by decide +kernel) rfl rfl ?_
    refine ab_fin.iast (h1 := h.set a (.inr (.inl (0, .inl (l.set (k) v))))) (pc' := 14) (by decide +kernel) ho (ab_ibd (by omega) (by omega)) (by rw [Int32.toNatClampNeg_ofNat_of_lt (by omega)]) rfl ?_
    refine ab_fin.inc (i := .iinc 2 1) (k := 3) (pc' := 17) (j := 2) (n := Int32.ofNat (k + 1)) (lv' := [(3, .int (Int32.ofNat N)), (0, .ref a), (1, .int v)]) (by decide +kernel) rfl (ab_i1 _) rfl ?_
    refine ab_fin.s3 (i := .goto (-12)) (k := 3) (t := 5) (st' := []) (by decide +kernel) (ab_goto (by decide +kernel)) ?_
    refine (ih (k + 1) _ (l.set k v) (by omega) (by rw [List.length_set]; exact hl) (ab_take_set (by omega) ht) (List.getElem?_set_self (List.getElem?_eq_some_iff.mp ho).1)).mono ?_
    rintro r h2 ⟨q1, q2⟩
    refine ⟨q1, ?_⟩
    rw [q2, List.set_set]
set_option maxRecDepth 100000 in
theorem hb_fillI {G : ab_G} {T : ab_GT} {d a N : Nat} {v : Int32} {h : List ab_E} {l : List Int32} (hl : l.length = N) (hN : N < 2 ^ 31) (h0 : 0 < N) (ho : h[a]? = some (.inr (.inl (0, .inl (l))))) : ab_ev G T d (mJ7_fill_53178, []) 0 (lv_args 0 [.ref a, .int v]) [] h (.inl none) (h.set a (.inr (.inl (0, .inl (List.replicate N v))))) := by
  refine ab_fin.ev ?_
  show ab_fin _ _ _ _ 0 [(0, .ref a), (1, .int v)] [] _ _
  refine ab_fin.s1i (i := .iconst 0) (k := 1) (pc' := 1) (n := 0) (by decide +kernel) rfl (by decide +kernel) rfl ?_
  refine ab_fin.s2 (i := .istore_n 2) (k := 1) (pc' := 2) (lv' := [(2, .int 0), (0, .ref a), (1, .int v)]) (st' := []) (by decide +kernel) rfl rfl ?_
  refine ab_fin.s2 (i := .aload_n 0) (k := 1) (pc' := 3) (lv' := [(2, .int 0), (0, .ref a), (1, .int v)]) (st' := [.ref a]) (by decide +kernel) rfl rfl ?_
  refine ab_fin.alen (n := Int32.ofNat N) (pc' := 4) (by decide +kernel) ho (Or.inl (by decide)) (ab_ln (show List.length _ = N from hl) rfl) rfl ?_
  refine ab_fin.s2 (i := .istore_n 3) (k := 1) (pc' := 5) (lv' := [(3, .int (Int32.ofNat N)), (2, .int 0), (0, .ref a), (1, .int v)]) (st' := []) (by decide +kernel) rfl rfl ?_
  refine ab_fin.s2 (i := .iload_n 2) (k := 1) (pc' := 6) (lv' := [(3, .int (Int32.ofNat N)), (2, .int 0), (0, .ref a), (1, .int v)]) (st' := [.int (Int32.ofNat 0)]) (by decide +kernel) rfl rfl ?_
  refine ab_fin.s2 (i := .iload_n 3) (k := 1) (pc' := 7) (lv' := [(3, .int (Int32.ofNat N)), (2, .int 0), (0, .ref a), (1, .int v)]) (st' := [.int (Int32.ofNat N), .int (Int32.ofNat 0)]) (by decide +kernel) rfl rfl ?_
  refine ab_fin.brF (c := Int32.ofNat N ≤ Int32.ofNat 0) (i := .if_icmp .ge 13) (off := 13) (t := 20) (pc' := 10) (r := []) (by decide +kernel) rfl (by decide +kernel) rfl (ab_ilt (by omega) hN) ?_
  refine ab_fin.s2 (i := .aload_n 0) (k := 1) (pc' := 11) (lv' := [(3, .int (Int32.ofNat N)), (2, .int 0), (0, .ref a), (1, .int v)]) (st' := [.ref a]) (by decide +kernel) rfl rfl ?_
  refine ab_fin.s2 (i := .iload_n 2) (k := 1) (pc' := 12) (lv' := [(3, .int (Int32.ofNat N)), (2, .int 0), (0, .ref a), (1, .int v)]) (st' := [.int (Int32.ofNat 0), .ref a]) (by decide +kernel) rfl rfl ?_
  refine ab_fin.s2 (i := .iload_n 1) (k := 1) (pc' := 13) (lv' := [(3, .int (Int32.ofNat N)), (2, .int 0), (0, .ref a), (1, .int v)]) (st' := [.int v, .int (Int32.ofNat 0), .ref a]) (by decide +kernel) rfl rfl ?_
  refine ab_fin.iast (h1 := h.set a (.inr (.inl (0, .inl (l.set (0) v))))) (pc' := 14) (by decide +kernel) ho (ab_ibd (by omega) (by omega)) (by rw [Int32.toNatClampNeg_ofNat_of_lt (by omega)]) rfl ?_
  refine ab_fin.inc (i := .iinc 2 1) (k := 3) (pc' := 17) (j := 2) (n := Int32.ofNat (0 + 1)) (lv' := [(3, .int (Int32.ofNat N)), (0, .ref a), (1, .int v)]) (by decide +kernel) rfl (ab_i1 _) rfl ?_
  refine ab_fin.s3 (i := .goto (-12)) (k := 3) (t := 5) (st' := []) (by decide +kernel) (ab_goto (by decide +kernel)) ?_
  refine (hb_fillI_lp hN (N - 1) (0 + 1) _ (l.set 0 v) (by omega) (by rw [List.length_set]; exact hl) (ab_take_set (by omega) rfl) (List.getElem?_set_self (List.getElem?_eq_some_iff.mp ho).1)).mono ?_
  rintro r h2 ⟨q1, q2⟩
  refine ⟨q1, ?_⟩
  rw [q2, List.set_set]
set_option maxRecDepth 100000 in
theorem hb_fillL_lp {G : ab_G} {T : ab_GT} {d a N : Nat} {v : Int64} (hN : N < 2 ^ 31) : ∀ (n k : Nat) (h : List ab_E) (l : List Int64), k + n = N → l.length = N → l.take k = List.replicate k v → h[a]? = some (.inr (.inl (1, .inr (.inl (l))))) → ab_fin G T d (mJ7_fill_d0a16, []) 6 [(3, .int (Int32.ofNat k)), (4, .int (Int32.ofNat N)), (0, .ref a), (1, .long v)] [] h (fun r h2 => r = .inl none ∧ h2 = h.set a (.inr (.inl (1, .inr (.inl (List.replicate N v)))))) := by
  intro n
  induction n with
  | zero =>
    intro k h l hk hl ht ho
    refine ab_fin.s2 (i := .iload_n 3) (k := 1) (pc' := 7) (lv' := [(3, .int (Int32.ofNat k)), (4, .int (Int32.ofNat N)), (0, .ref a), (1, .long v)]) (st' := [.int (Int32.ofNat k)]) (by decide +kernel) rfl rfl ?_
    refine ab_fin.s2 (i := .iload 4) (k := 2) (pc' := 9) (lv' := [(3, .int (Int32.ofNat k)), (4, .int (Int32.ofNat N)), (0, .ref a), (1, .long v)]) (st' := [.int (Int32.ofNat N), .int (Int32.ofNat k)]) (by decide +kernel) rfl rfl ?_
    refine ab_fin.brT (c := Int32.ofNat N ≤ Int32.ofNat k) (i := .if_icmp .ge 13) (off := 13) (t := 22) (r := []) (by decide +kernel) rfl (by decide +kernel) (by rw [show k = N by omega]; exact Int32.le_refl _) ?_
    refine ab_fin.ret (i := .return_) (k := 1) none (by decide +kernel) rfl ⟨rfl, ?_⟩
    rw [show k = N by omega, ← hl, List.take_length] at ht
    rw [← hl, ← ht]
    exact (ab_set_same ho).symm
  | succ n ih =>
    intro k h l hk hl ht ho
    refine ab_fin.s2 (i := .iload_n 3) (k := 1) (pc' := 7) (lv' := [(3, .int (Int32.ofNat k)), (4, .int (Int32.ofNat N)), (0, .ref a), (1, .long v)]) (st' := [.int (Int32.ofNat k)]) (by decide +kernel) rfl rfl ?_
    refine ab_fin.s2 (i := .iload 4) (k := 2) (pc' := 9) (lv' := [(3, .int (Int32.ofNat k)), (4, .int (Int32.ofNat N)), (0, .ref a), (1, .long v)]) (st' := [.int (Int32.ofNat N), .int (Int32.ofNat k)]) (by decide +kernel) rfl rfl ?_
    refine ab_fin.brF (c := Int32.ofNat N ≤ Int32.ofNat k) (i := .if_icmp .ge 13) (off := 13) (t := 22) (pc' := 12) (r := []) (by decide +kernel) rfl (by decide +kernel) rfl (ab_ilt (by omega) hN) ?_
    refine ab_fin.s2 (i := .aload_n 0) (k := 1) (pc' := 13) (lv' := [(3, .int (Int32.ofNat k)), (4, .int (Int32.ofNat N)), (0, .ref a), (1, .long v)]) (st' := [.ref a]) (by decide +kernel) rfl rfl ?_
    refine ab_fin.s2 (i := .iload_n 3) (k := 1) (pc' := 14) (lv' := [(3, .int (Int32.ofNat k)), (4, .int (Int32.ofNat N)), (0, .ref a), (1, .long v)]) (st' := [.int (Int32.ofNat k), .ref a]) (by decide +kernel) rfl rfl ?_
    refine ab_fin.s2 (i := .lload_n 1) (k := 1) (pc' := 15) (lv' := [(3, .int (Int32.ofNat k)), (4, .int (Int32.ofNat N)), (0, .ref a), (1, .long v)]) (st' := [.long v, .int (Int32.ofNat k), .ref a]) (by decide +kernel) rfl rfl ?_
    refine ab_fin.last (h1 := h.set a (.inr (.inl (1, .inr (.inl (l.set (k) v)))))) (pc' := 16) (by decide +kernel) ho (ab_ibd (by omega) (by omega)) (by rw [Int32.toNatClampNeg_ofNat_of_lt (by omega)]) rfl ?_
    refine ab_fin.inc (i := .iinc 3 1) (k := 3) (pc' := 19) (j := 3) (n := Int32.ofNat (k + 1)) (lv' := [(4, .int (Int32.ofNat N)), (0, .ref a), (1, .long v)]) (by decide +kernel) rfl (ab_i1 _) rfl ?_
    refine ab_fin.s3 (i := .goto (-13)) (k := 3) (t := 6) (st' := []) (by decide +kernel) (ab_goto (by decide +kernel)) ?_
    refine (ih (k + 1) _ (l.set k v) (by omega) (by rw [List.length_set]; exact hl) (ab_take_set (by omega) ht) (List.getElem?_set_self (List.getElem?_eq_some_iff.mp ho).1)).mono ?_
    rintro r h2 ⟨q1, q2⟩
    refine ⟨q1, ?_⟩
    rw [q2, List.set_set]
set_option maxRecDepth 100000 in
theorem hb_fillL {G : ab_G} {T : ab_GT} {d a N : Nat} {v : Int64} {h : List ab_E} {l : List Int64} (hl : l.length = N) (hN : N < 2 ^ 31) (h0 : 0 < N) (ho : h[a]? = some (.inr (.inl (1, .inr (.inl (l)))))) : ab_ev G T d (mJ7_fill_d0a16, []) 0 (lv_args 0 [.ref a, .long v]) [] h (.inl none) (h.set a (.inr (.inl (1, .inr (.inl (List.replicate N v)))))) := by
  refine ab_fin.ev ?_
  show ab_fin _ _ _ _ 0 [(0, .ref a), (1, .long v)] [] _ _
  refine ab_fin.s1i (i := .iconst 0) (k := 1) (pc' := 1) (n := 0) (by decide +kernel) rfl (by decide +kernel) rfl ?_
  refine ab_fin.s2 (i := .istore_n 3) (k := 1) (pc' := 2) (lv' := [(3, .int 0), (0, .ref a), (1, .long v)]) (st' := []) (by decide +kernel) rfl rfl ?_
  refine ab_fin.s2 (i := .aload_n 0) (k := 1) (pc' := 3) (lv' := [(3, .int 0), (0, .ref a), (1, .long v)]) (st' := [.ref a]) (by decide +kernel) rfl rfl ?_
  refine ab_fin.alen (n := Int32.ofNat N) (pc' := 4) (by decide +kernel) ho (Or.inl (by decide)) (ab_ln (show List.length _ = N from hl) rfl) rfl ?_
  refine ab_fin.s2 (i := .istore 4) (k := 2) (pc' := 6) (lv' := [(4, .int (Int32.ofNat N)), (3, .int 0), (0, .ref a), (1, .long v)]) (st' := []) (by decide +kernel) rfl rfl ?_
  refine ab_fin.s2 (i := .iload_n 3) (k := 1) (pc' := 7) (lv' := [(4, .int (Int32.ofNat N)), (3, .int 0), (0, .ref a), (1, .long v)]) (st' := [.int (Int32.ofNat 0)]) (by decide +kernel) rfl rfl ?_
  refine ab_fin.s2 (i := .iload 4) (k := 2) (pc' := 9) (lv' := [(4, .int (Int32.ofNat N)), (3, .int 0), (0, .ref a), (1, .long v)]) (st' := [.int (Int32.ofNat N), .int (Int32.ofNat 0)]) (by decide +kernel) rfl rfl ?_
  refine ab_fin.brF (c := Int32.ofNat N ≤ Int32.ofNat 0) (i := .if_icmp .ge 13) (off := 13) (t := 22) (pc' := 12) (r := []) (by decide +kernel) rfl (by decide +kernel) rfl (ab_ilt (by omega) hN) ?_
  refine ab_fin.s2 (i := .aload_n 0) (k := 1) (pc' := 13) (lv' := [(4, .int (Int32.ofNat N)), (3, .int 0), (0, .ref a), (1, .long v)]) (st' := [.ref a]) (by decide +kernel) rfl rfl ?_
  refine ab_fin.s2 (i := .iload_n 3) (k := 1) (pc' := 14) (lv' := [(4, .int (Int32.ofNat N)), (3, .int 0), (0, .ref a), (1, .long v)]) (st' := [.int (Int32.ofNat 0), .ref a]) (by decide +kernel) rfl rfl ?_
  refine ab_fin.s2 (i := .lload_n 1) (k := 1) (pc' := 15) (lv' := [(4, .int (Int32.ofNat N)), (3, .int 0), (0, .ref a), (1, .long v)]) (st' := [.long v, .int (Int32.ofNat 0), .ref a]) (by decide +kernel) rfl rfl ?_
  refine ab_fin.last (h1 := h.set a (.inr (.inl (1, .inr (.inl (l.set (0) v)))))) (pc' := 16) (by decide +kernel) ho (ab_ibd (by omega) (by omega)) (by rw [Int32.toNatClampNeg_ofNat_of_lt (by omega)]) rfl ?_
  refine ab_fin.inc (i := .iinc 3 1) (k := 3) (pc' := 19) (j := 3) (n := Int32.ofNat (0 + 1)) (lv' := [(4, .int (Int32.ofNat N)), (0, .ref a), (1, .long v)]) (by decide +kernel) rfl (ab_i1 _) rfl ?_
  refine ab_fin.s3 (i := .goto (-13)) (k := 3) (t := 6) (st' := []) (by decide +kernel) (ab_goto (by decide +kernel)) ?_
  refine (hb_fillL_lp hN (N - 1) (0 + 1) _ (l.set 0 v) (by omega) (by rw [List.length_set]; exact hl) (ab_take_set (by omega) rfl) (List.getElem?_set_self (List.getElem?_eq_some_iff.mp ho).1)).mono ?_
  rintro r h2 ⟨q1, q2⟩
  refine ⟨q1, ?_⟩
  rw [q2, List.set_set]
set_option maxRecDepth 100000 in
theorem hb_forget_lp {z : Option Value × Option Value × Option Value} {x : Option (Nat × Nat × (Nat → Value))} {T : ab_GT} {d a K : Nat} {fs : List Value} (hf : fs[55]? = some (.ref K)) (hK : K ≠ a) : ∀ (n k : Nat) (h : List ab_E) (l : List Int32), k + n = 8192 → l.length = 8192 → l.take k = List.replicate k (-1) → h[a]? = some (.inr (.inr (24, fs))) → h[K]? = some (.inr (.inl (0, .inl (l)))) → ab_fin (hb_Gz z x) T d (mX23_forget, []) 2 [(1, .int (Int32.ofNat k)), (0, .ref a)] [] h (fun r h2 => r = .inl none ∧ h2 = h.set K (.inr (.inl (0, .inl (List.replicate 8192 (-1)))))) := by
  intro n
  induction n with
  | zero =>
    intro k h l hk hl ht hm ho
    refine ab_fin.s2 (i := .iload_n 1) (k := 1) (pc' := 3) (lv' := [(1, .int (Int32.ofNat k)), (0, .ref a)]) (st' := [.int (Int32.ofNat k)]) (by decide +kernel) rfl rfl ?_
    refine ab_fin.s1i (i := .sipush 8192) (k := 3) (pc' := 6) (n := Int32.ofNat 8192) (by decide +kernel) rfl (by decide +kernel) rfl ?_
    refine ab_fin.brT (c := Int32.ofNat 8192 ≤ Int32.ofNat k) (i := .if_icmp .ge 16) (off := 16) (t := 22) (r := []) (by decide +kernel) rfl (by decide +kernel) (by rw [show k = 8192 by omega]; exact Int32.le_refl _) ?_
    refine ab_fin.ret (i := .return_) (k := 1) none (by decide +kernel) rfl ⟨rfl, ?_⟩
    rw [show k = 8192 by omega, ← hl, List.take_length] at ht
    rw [hl] at ht
    rw [← ht]
    exact (ab_set_same ho).symm
  | succ n ih =>
    intro k h l hk hl ht hm ho
    refine ab_fin.s2 (i := .iload_n 1) (k := 1) (pc' := 3) (lv' := [(1, .int (Int32.ofNat k)), (0, .ref a)]) (st' := [.int (Int32.ofNat k)]) (by decide +kernel) rfl rfl ?_
    refine ab_fin.s1i (i := .sipush 8192) (k := 3) (pc' := 6) (n := Int32.ofNat 8192) (by decide +kernel) rfl (by decide +kernel) rfl ?_
    refine ab_fin.brF (c := Int32.ofNat 8192 ≤ Int32.ofNat k) (i := .if_icmp .ge 16) (off := 16) (t := 22) (pc' := 9) (r := []) (by decide +kernel) rfl (by decide +kernel) rfl (ab_ilt (by omega) (by omega)) ?_
    refine ab_fin.s2 (i := .aload_n 0) (k := 1) (pc' := 10) (lv' := [(1, .int (Int32.ofNat k)), (0, .ref a)]) (st' := [.ref a]) (by decide +kernel) rfl rfl ?_
    refine ab_fin.getf (ix := 598) (k := 55) (v := .ref K) (pc' := 13) (by decide +kernel) rfl hm hf rfl ?_
    refine ab_fin.s2 (i := .iload_n 1) (k := 1) (pc' := 14) (lv' := [(1, .int (Int32.ofNat k)), (0, .ref a)]) (st' := [.int (Int32.ofNat k), .ref K]) (by decide +kernel) rfl rfl ?_
    refine ab_fin.s1i (i := .iconst (-1)) (k := 1) (pc' := 15) (n := -1) (by decide +kernel) rfl (by decide +kernel) rfl ?_
    refine ab_fin.iast (h1 := h.set K (.inr (.inl (0, .inl (l.set k (-1)))))) (pc' := 16) (by decide +kernel) ho (ab_ibd (by omega) (by omega)) (by rw [Int32.toNatClampNeg_ofNat_of_lt (by omega)]) rfl ?_
    refine ab_fin.inc (i := .iinc 1 1) (k := 3) (pc' := 19) (j := 1) (n := Int32.ofNat (k + 1)) (lv' := [(0, .ref a)]) (by decide +kernel) rfl (ab_i1 _) rfl ?_
    refine ab_fin.s3 (i := .goto (-17)) (k := 3) (t := 2) (st' := []) (by decide +kernel) (ab_goto (by decide +kernel)) ?_
    refine (ih (k + 1) _ (l.set k (-1)) (by omega) (by rw [List.length_set]; exact hl) (ab_take_set (by omega) ht) (by rw [List.getElem?_set_ne hK]; exact hm) (List.getElem?_set_self (List.getElem?_eq_some_iff.mp ho).1)).mono ?_
    rintro r h2 ⟨q1, q2⟩
    refine ⟨q1, ?_⟩
    rw [q2, List.set_set]
set_option maxRecDepth 100000 in
theorem hb_forget {z : Option Value × Option Value × Option Value} {x : Option (Nat × Nat × (Nat → Value))} {T : ab_GT} {d a K : Nat} {fs : List Value} {h : List ab_E} {l : List Int32} (hm : h[a]? = some (.inr (.inr (24, fs)))) (hf : fs[55]? = some (.ref K)) (hK : K ≠ a) (hl : l.length = 8192) (ho : h[K]? = some (.inr (.inl (0, .inl (l))))) : ab_ev (hb_Gz z x) T d (mX23_forget, []) 0 (lv_args 0 [.ref a]) [] h (.inl none) (h.set K (.inr (.inl (0, .inl (List.replicate 8192 (-1)))))) := by
  refine ab_fin.ev ?_
  show ab_fin _ _ _ _ 0 [(0, .ref a)] [] _ _
  refine ab_fin.s1i (i := .iconst 0) (k := 1) (pc' := 1) (n := Int32.ofNat 0) (by decide +kernel) rfl (by decide +kernel) rfl ?_
  refine ab_fin.s2 (i := .istore_n 1) (k := 1) (pc' := 2) (lv' := [(1, .int (Int32.ofNat 0)), (0, .ref a)]) (st' := []) (by decide +kernel) rfl rfl ?_
  exact hb_forget_lp hf hK 8192 0 h l rfl hl rfl hm ho
theorem ab_lsw {x : Int32} {dflt : Int} {ps : Array (Int × Int)} {k pc t : Nat} {r : List Value} (hc : (ps.toList.zip (ps.toList.drop 1)).all (fun (a, next) => a.1 < next.1) = true) (ht : ab_t pc (Op.lookupswitch.offset ps.toList dflt x.toInt) = some t) : ab_s3 (.lookupswitch dflt ps) k pc (.int x :: r) = some (t, r) := by
  simp only [ab_s3, if_pos hc, ht]
  rfl
section LDCW
variable {G : ab_G} {T : ab_GT} {d : Nat} {M : ab_MX} {pc : Nat} {lv : ab_L} {h : List ab_E} {Q : ab_RX → List ab_E → Prop}
theorem ab_fin.ldcw {ix j pc' : Nat} {r : List Value} (hd : decode (ab_mc M.1) pc = .ok (.ldc_w ix, 3)) (hk : (ab_gX G).2.2.2.2.1 (ab_mo M.1) ix = some j) (hI : ab_gI G (ab_mo M.1) ix = none) (hp : pc + 3 = pc') (e : ab_fin G T d M pc' lv (.retAddr j :: r) h Q) (h44 : ab_mo M.1 ≠ 44 := by decide) : ab_fin G T d M pc lv r h Q := by
  subst hp
  have h7 : ab_s7 (ab_gI G (ab_mo M.1)) (ab_gL G (ab_mo M.1)) (.ldc_w ix) 3 r = none := by
    simp only [ab_s7, hI, Option.map_none]
  have h9 : ab_s9 (ab_gX G) (ab_gO G) (ab_mo M.1) h (.ldc_w ix) 3 pc r = some (pc + 3, .retAddr j :: r, h) := by
    simp only [ab_s9, if_neg h44, hk, Option.map_some]
  exact e.step hd (by simp only [ab_step, show ab_s1 (.ldc_w ix) 3 r = none from rfl, show ab_s2 (ab_mL M.1) (.ldc_w ix) 3 lv r = none from rfl, show ab_s3 (.ldc_w ix) 3 pc r = none from rfl, show ab_s4 (ab_gF G (ab_mo M.1) (ab_mi M.1)) (ab_gO G) h (.ldc_w ix) 3 r = none from rfl, show ab_s5 (ab_gF G (ab_mo M.1) (ab_mi M.1)) (ab_gO G) (ab_gK G) h (.ldc_w ix) 3 r = none from rfl, show ab_s6 (ab_gC G (ab_mo M.1)) h (.ldc_w ix) 3 r = none from rfl, h7, show ab_s8 (ab_gX G) (ab_mo M.1) (.ldc_w ix) 3 r = none from rfl, h9])
end LDCW

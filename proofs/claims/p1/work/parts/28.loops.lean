/-! the reference's constructor -/
section INI
variable {G : ab_G} {T : ab_GT} {d : Nat} {M : ab_MX} {pc : Nat} {lv : ab_L} {h : List ab_E} {Q : ab_RX → List ab_E → Prop}
theorem ab_fin.s10 {i : Instr} {k pc' : Nat} {st st' : List Value} {x h1 : List ab_E} (hi : ab_c i = 10) (hd : decode (ab_mc M.1) pc = .ok (i, k)) (hs : ab_s10 (ab_gX G) (ab_mo M.1) h i k st = some (st', x)) (hw : h ++ x = h1) (hp : pc + k = pc') (e : ab_fin G T d M pc' lv st' h1 Q) : ab_fin G T d M pc lv st h Q := by
  subst hp
  subst hw
  have n1 : ab_s1 i k st = none := ab_no fun r q => by have := ab_c1 q; omega
  have n2 : ab_s2 (ab_mL M.1) i k lv st = none := ab_no fun r q => by have := ab_c2 q; omega
  have n3 : ab_s3 i k pc st = none := ab_no fun r q => by have := ab_c3 q; omega
  have n4 : ab_s4 (ab_gF G (ab_mo M.1) (ab_mi M.1)) (ab_gO G) h i k st = none := ab_no fun r q => by have := ab_c4 q; omega
  have n5 : ab_s5 (ab_gF G (ab_mo M.1) (ab_mi M.1)) (ab_gO G) (ab_gK G) h i k st = none := ab_no fun r q => by have := ab_c5 q; omega
  have n6 : ab_s6 (ab_gC G (ab_mo M.1)) h i k st = none := ab_no fun r q => by have := ab_c6 q; omega
  have n7 : ab_s7 (ab_gI G (ab_mo M.1)) (ab_gL G (ab_mo M.1)) i k st = none := ab_no fun r q => by have := ab_c7 q; omega
  have n8 : ab_s8 (ab_gX G) (ab_mo M.1) i k st = none := ab_no fun r q => by have := ab_c8 q; omega
  have n9 : ab_s9 (ab_gX G) (ab_gO G) (ab_mo M.1) h i k pc st = none := ab_no fun r q => by have := ab_c9 q; omega
  exact e.step hd (by simp only [ab_step, n1, n2, n3, n4, n5, n6, n7, n8, n9, hs])
theorem ab_fin.newR {ix t n pc' : Nat} {m : Int32} {N : Nat} {r : List Value} {h1 : List ab_E} (hd : decode (ab_mc M.1) pc = .ok (.anewarray ix, 3)) (hA : ab_xA (ab_gX G) (ab_mo M.1) ix = some t) (hm : ¬ (m < 0 ∨ 60000000 < m.toNatClampNeg)) (hN : m.toNatClampNeg = N) (hn : h.length = n) (hw : h ++ [.inr (.inl (t, .inr (.inr (List.replicate N none))))] = h1) (hp : pc + 3 = pc') (e : ab_fin G T d M pc' lv (.ref n :: r) h1 Q) : ab_fin G T d M pc lv (.int m :: r) h Q := by
  subst hN
  subst hn
  exact ab_fin.s10 rfl hd (by simp only [ab_s10, hA, Option.bind_some, if_neg hm]) hw hp e
theorem ab_fin.newM {ix dm n pc' : Nat} {ks ns : List Nat} {cs : List Int32} {st r : List Value} {h1 : List ab_E} (hd : decode (ab_mc M.1) pc = .ok (.multianewarray ix dm, 4)) (hA : ab_xM (ab_gX G) (ab_mo M.1) ix = some ks) (hc : ab_cnt dm st = some (cs, r)) (hk : ks.length = dm ∧ 0 < dm ∧ cs.all (fun n => decide (¬ n < 0 ∧ n.toNatClampNeg ≤ 60000000)) = true) (hN : cs.map (fun n => n.toNatClampNeg) = ns) (hn : h.length = n) (hw : h ++ ab_mk ks ns n = h1) (hp : pc + 4 = pc') (e : ab_fin G T d M pc' lv (.ref n :: r) h1 Q) : ab_fin G T d M pc lv st h Q := by
  subst hN
  subst hn
  exact ab_fin.s10 rfl hd (by simp only [ab_s10, hA, hc, Option.bind_some, if_pos hk]) hw hp e
theorem ab_fin.aast {v a t ci pc' : Nat} {i : Int32} {l : List (Option Nat)} {fs r : List Value} {h1 : List ab_E} (hd : decode (ab_mc M.1) pc = .ok (.aastore, 1)) (hv : h[v]? = some (.inr (.inr (ci, fs)))) (ho : h[a]? = some (.inr (.inl (t, .inr (.inr l))))) (ht : 4 ≤ t) (hi : ¬ (i < 0 ∨ l.length ≤ i.toNatClampNeg)) (hc : ((ab_gK G)[ci]?).map (fun z => FieldType.object z.1) = ab_gO G (t - 4) ∧ (ab_gO G (t - 4)).isSome = true) (hw : h.set a (.inr (.inl (t, .inr (.inr (l.set i.toNatClampNeg (some v)))))) = h1) (hp : pc + 1 = pc') (e : ab_fin G T d M pc' lv r h1 Q) : ab_fin G T d M pc lv (.ref v :: .int i :: .ref a :: r) h Q := by
  refine ab_fin.s5 hd ?_ hp e
  simp only [ab_s5, ab_arR, ho, if_pos ht, Option.bind_some, hv, if_neg hi, if_pos hc, hw]
end INI
theorem hm_keep {H C : List ab_E} {A a : Nat} {e x : ab_E} (ha : H[a]? = some x) (hne : A ≠ a) : ((H ++ C).set A e)[a]? = some x := by
  rw [List.getElem?_set_ne hne, List.getElem?_append_left (List.getElem?_eq_some_iff.mp ha).1]
  exact ha
theorem hm_put {H C : List ab_E} {A : Nat} {e x : ab_E} (ha : H[A]? = some x) : ((H ++ C).set A e)[A]? = some e := List.getElem?_set_self (by rw [List.length_append]; have := (List.getElem?_eq_some_iff.mp ha).1; omega)
def hm_it (A t : Nat) (C : Nat → List ab_E) : Nat → Nat → List ab_E → List (Option Nat) → List ab_E
  | 0, _, H, _ => H
  | n + 1, k, H, l => hm_it A t C n (k + 1) ((H ++ C H.length).set A (.inr (.inl (t, .inr (.inr (l.set k (some H.length))))))) (l.set k (some H.length))
set_option maxRecDepth 100000 in
theorem hm_lpKind {z4 z5 z6 : Value} {L : Nat} {xs : Nat → Int32} (h4 : z4 = .null ∨ z4 = .retAddr 4) (h5 : z5 = .null ∨ z5 = .retAddr 5) (h6 : z6 = .null ∨ z6 = .retAddr 6) {d : Nat} (hd : 12 ≤ d) {F : List Value} (hF : F[0]? = some (.ref 1)) {Q : ab_RX → List ab_E → Prop} : ∀ (n k : Nat) (H : List ab_E) (l : List (Option Nat)), k + n = 24 → l.length = 24 → H[0]? = some (.inr (.inr (24, F))) → H[1]? = some (.inr (.inl (4, .inr (.inr (l))))) → ab_fin (hb_Gz (some z4, some z5, some z6) (some (0, L, fun i => .int (xs i)))) hb_GT (d + 1) (mX23_init, []) 585 [(1, .int (Int32.ofNat 24)), (0, .ref 0)] [] (hm_it 1 4 hm_Kind n k H l) Q → ab_fin (hb_Gz (some z4, some z5, some z6) (some (0, L, fun i => .int (xs i)))) hb_GT (d + 1) (mX23_init, []) 560 [(1, .int (Int32.ofNat k)), (0, .ref 0)] [] H Q := by
  intro n
  induction n with
  | zero =>
    intro k H l hk hl hm ho e
    refine ab_fin.s2 (i := .iload_n 1) (k := 1) (pc' := 561) (lv' := [(1, .int (Int32.ofNat k)), (0, .ref 0)]) (st' := [.int (Int32.ofNat k)]) (by decide +kernel) rfl rfl ?_
    refine ab_fin.s1i (i := .bipush 24) (k := 2) (pc' := 563) (n := Int32.ofNat 24) (by decide +kernel) rfl (by decide +kernel) rfl ?_
    refine ab_fin.brT (c := Int32.ofNat 24 ≤ Int32.ofNat k) (i := .if_icmp .ge 22) (off := 22) (t := 585) (r := []) (by decide +kernel) rfl (by decide +kernel) (by rw [show k = 24 by omega]; exact Int32.le_refl _) ?_
    rw [show k = 24 by omega]
    exact e
  | succ n ih =>
    intro k H l hk hl hm ho e
    refine ab_fin.s2 (i := .iload_n 1) (k := 1) (pc' := 561) (lv' := [(1, .int (Int32.ofNat k)), (0, .ref 0)]) (st' := [.int (Int32.ofNat k)]) (by decide +kernel) rfl rfl ?_
    refine ab_fin.s1i (i := .bipush 24) (k := 2) (pc' := 563) (n := Int32.ofNat 24) (by decide +kernel) rfl (by decide +kernel) rfl ?_
    refine ab_fin.brF (c := Int32.ofNat 24 ≤ Int32.ofNat k) (i := .if_icmp .ge 22) (off := 22) (t := 585) (pc' := 566) (r := []) (by decide +kernel) rfl (by decide +kernel) rfl (ab_ilt (by omega) (by omega)) ?_
    refine ab_fin.s2 (i := .aload_n 0) (k := 1) (pc' := 567) (lv' := [(1, .int (Int32.ofNat k)), (0, .ref 0)]) (st' := [.ref 0]) (by decide +kernel) rfl rfl ?_
    refine ab_fin.getf (ix := 17) (k := 0) (v := .ref 1) (pc' := 570) (by decide +kernel) rfl hm hF rfl ?_
    refine ab_fin.s2 (i := .iload_n 1) (k := 1) (pc' := 571) (lv' := [(1, .int (Int32.ofNat k)), (0, .ref 0)]) (st' := [.int (Int32.ofNat k), .ref 1]) (by decide +kernel) rfl rfl ?_
    refine ab_fin.newO (ix := 22) (n := H.length) (h1 := H ++ [hm_Kind0]) (pc' := 574) (by decide +kernel) rfl rfl rfl rfl ?_
    refine ab_fin.s1 (i := .dup) (k := 1) (pc' := 575) (st' := [.ref H.length, .ref H.length, .int (Int32.ofNat k), .ref 1]) (by decide +kernel) rfl rfl ?_
    refine ab_fin.known (i := .invokespecial 963) (k := 3) (y := 4352) (As := [.ref H.length]) (rest := [.ref H.length, .int (Int32.ofNat k), .ref 1]) (M' := (mX17_init, [])) (v := none) (pc' := 578) (st' := [.ref H.length, .int (Int32.ofNat k), .ref 1]) (h1 := H ++ hm_Kind H.length) (by decide +kernel) (ab_ci (Or.inr rfl) rfl rfl ⟨(Nat.le_of_ble_eq_true rfl), (Nat.le_of_ble_eq_true rfl)⟩ rfl) rfl (Nat.le_of_ble_eq_true rfl) (hm_Kind_c h4 h5 h6 hd H rfl) rfl rfl ?_
    refine ab_fin.aast (h1 := (H ++ hm_Kind H.length).set 1 (.inr (.inl (4, .inr (.inr (l.set k (some H.length))))))) (pc' := 579) (by decide +kernel) ((List.getElem?_append_right (Nat.le_refl _)).trans (by rw [Nat.sub_self]; rfl)) ((List.getElem?_append_left (List.getElem?_eq_some_iff.mp ho).1).trans ho) (by decide) (ab_ibd (by omega) (by omega)) ⟨rfl, rfl⟩ (by rw [Int32.toNatClampNeg_ofNat_of_lt (by omega)]) rfl ?_
    refine ab_fin.inc (i := .iinc 1 1) (k := 3) (pc' := 582) (j := 1) (n := Int32.ofNat (k + 1)) (lv' := [(0, .ref 0)]) (by decide +kernel) rfl (ab_i1 _) rfl ?_
    refine ab_fin.s3 (i := .goto (-22)) (k := 3) (t := 560) (st' := []) (by decide +kernel) (ab_goto (by decide +kernel)) ?_
    exact ih (k + 1) _ _ (by omega) (by rw [List.length_set]; exact hl) (hm_keep hm (by decide)) (hm_put ho) e
set_option maxRecDepth 100000 in
theorem hm_lpCall {z4 z5 z6 : Value} {L : Nat} {xs : Nat → Int32} (h4 : z4 = .null ∨ z4 = .retAddr 4) (h5 : z5 = .null ∨ z5 = .retAddr 5) (h6 : z6 = .null ∨ z6 = .retAddr 6) {d : Nat} (hd : 12 ≤ d) {F : List Value} (hF : F[1]? = some (.ref 2)) {Q : ab_RX → List ab_E → Prop} : ∀ (n k : Nat) (H : List ab_E) (l : List (Option Nat)), k + n = 24 → l.length = 24 → H[0]? = some (.inr (.inr (24, F))) → H[2]? = some (.inr (.inl (5, .inr (.inr (l))))) → ab_fin (hb_Gz (some z4, some z5, some z6) (some (0, L, fun i => .int (xs i)))) hb_GT (d + 1) (mX23_init, []) 612 [(1, .int (Int32.ofNat 24)), (0, .ref 0)] [] (hm_it 2 5 hm_Call n k H l) Q → ab_fin (hb_Gz (some z4, some z5, some z6) (some (0, L, fun i => .int (xs i)))) hb_GT (d + 1) (mX23_init, []) 587 [(1, .int (Int32.ofNat k)), (0, .ref 0)] [] H Q := by
  intro n
  induction n with
  | zero =>
    intro k H l hk hl hm ho e
    refine ab_fin.s2 (i := .iload_n 1) (k := 1) (pc' := 588) (lv' := [(1, .int (Int32.ofNat k)), (0, .ref 0)]) (st' := [.int (Int32.ofNat k)]) (by decide +kernel) rfl rfl ?_
    refine ab_fin.s1i (i := .bipush 24) (k := 2) (pc' := 590) (n := Int32.ofNat 24) (by decide +kernel) rfl (by decide +kernel) rfl ?_
    refine ab_fin.brT (c := Int32.ofNat 24 ≤ Int32.ofNat k) (i := .if_icmp .ge 22) (off := 22) (t := 612) (r := []) (by decide +kernel) rfl (by decide +kernel) (by rw [show k = 24 by omega]; exact Int32.le_refl _) ?_
    rw [show k = 24 by omega]
    exact e
  | succ n ih =>
    intro k H l hk hl hm ho e
    refine ab_fin.s2 (i := .iload_n 1) (k := 1) (pc' := 588) (lv' := [(1, .int (Int32.ofNat k)), (0, .ref 0)]) (st' := [.int (Int32.ofNat k)]) (by decide +kernel) rfl rfl ?_
    refine ab_fin.s1i (i := .bipush 24) (k := 2) (pc' := 590) (n := Int32.ofNat 24) (by decide +kernel) rfl (by decide +kernel) rfl ?_
    refine ab_fin.brF (c := Int32.ofNat 24 ≤ Int32.ofNat k) (i := .if_icmp .ge 22) (off := 22) (t := 612) (pc' := 593) (r := []) (by decide +kernel) rfl (by decide +kernel) rfl (ab_ilt (by omega) (by omega)) ?_
    refine ab_fin.s2 (i := .aload_n 0) (k := 1) (pc' := 594) (lv' := [(1, .int (Int32.ofNat k)), (0, .ref 0)]) (st' := [.ref 0]) (by decide +kernel) rfl rfl ?_
    refine ab_fin.getf (ix := 34) (k := 1) (v := .ref 2) (pc' := 597) (by decide +kernel) rfl hm hF rfl ?_
    refine ab_fin.s2 (i := .iload_n 1) (k := 1) (pc' := 598) (lv' := [(1, .int (Int32.ofNat k)), (0, .ref 0)]) (st' := [.int (Int32.ofNat k), .ref 2]) (by decide +kernel) rfl rfl ?_
    refine ab_fin.newO (ix := 39) (n := H.length) (h1 := H ++ [hm_Call0]) (pc' := 601) (by decide +kernel) rfl rfl rfl rfl ?_
    refine ab_fin.s1 (i := .dup) (k := 1) (pc' := 602) (st' := [.ref H.length, .ref H.length, .int (Int32.ofNat k), .ref 2]) (by decide +kernel) rfl rfl ?_
    refine ab_fin.known (i := .invokespecial 964) (k := 3) (y := 3328) (As := [.ref H.length]) (rest := [.ref H.length, .int (Int32.ofNat k), .ref 2]) (M' := (mX13_init, [])) (v := none) (pc' := 605) (st' := [.ref H.length, .int (Int32.ofNat k), .ref 2]) (h1 := H ++ hm_Call H.length) (by decide +kernel) (ab_ci (Or.inr rfl) rfl rfl ⟨(Nat.le_of_ble_eq_true rfl), (Nat.le_of_ble_eq_true rfl)⟩ rfl) rfl (Nat.le_of_ble_eq_true rfl) (hm_Call_c h4 h5 h6 hd H rfl) rfl rfl ?_
    refine ab_fin.aast (h1 := (H ++ hm_Call H.length).set 2 (.inr (.inl (5, .inr (.inr (l.set k (some H.length))))))) (pc' := 606) (by decide +kernel) ((List.getElem?_append_right (Nat.le_refl _)).trans (by rw [Nat.sub_self]; rfl)) ((List.getElem?_append_left (List.getElem?_eq_some_iff.mp ho).1).trans ho) (by decide) (ab_ibd (by omega) (by omega)) ⟨rfl, rfl⟩ (by rw [Int32.toNatClampNeg_ofNat_of_lt (by omega)]) rfl ?_
    refine ab_fin.inc (i := .iinc 1 1) (k := 3) (pc' := 609) (j := 1) (n := Int32.ofNat (k + 1)) (lv' := [(0, .ref 0)]) (by decide +kernel) rfl (ab_i1 _) rfl ?_
    refine ab_fin.s3 (i := .goto (-22)) (k := 3) (t := 587) (st' := []) (by decide +kernel) (ab_goto (by decide +kernel)) ?_
    exact ih (k + 1) _ _ (by omega) (by rw [List.length_set]; exact hl) (hm_keep hm (by decide)) (hm_put ho) e
set_option maxRecDepth 100000 in
theorem hm_lpName {z4 z5 z6 : Value} {L : Nat} {xs : Nat → Int32} (h4 : z4 = .null ∨ z4 = .retAddr 4) (h5 : z5 = .null ∨ z5 = .retAddr 5) (h6 : z6 = .null ∨ z6 = .retAddr 6) {d : Nat} (hd : 12 ≤ d) {F : List Value} (hF : F[3]? = some (.ref 4)) {Q : ab_RX → List ab_E → Prop} : ∀ (n k : Nat) (H : List ab_E) (l : List (Option Nat)), k + n = 8 → l.length = 8 → H[0]? = some (.inr (.inr (24, F))) → H[4]? = some (.inr (.inl (7, .inr (.inr (l))))) → ab_fin (hb_Gz (some z4, some z5, some z6) (some (0, L, fun i => .int (xs i)))) hb_GT (d + 1) (mX23_init, []) 639 [(1, .int (Int32.ofNat 8)), (0, .ref 0)] [] (hm_it 4 7 hm_Name n k H l) Q → ab_fin (hb_Gz (some z4, some z5, some z6) (some (0, L, fun i => .int (xs i)))) hb_GT (d + 1) (mX23_init, []) 614 [(1, .int (Int32.ofNat k)), (0, .ref 0)] [] H Q := by
  intro n
  induction n with
  | zero =>
    intro k H l hk hl hm ho e
    refine ab_fin.s2 (i := .iload_n 1) (k := 1) (pc' := 615) (lv' := [(1, .int (Int32.ofNat k)), (0, .ref 0)]) (st' := [.int (Int32.ofNat k)]) (by decide +kernel) rfl rfl ?_
    refine ab_fin.s1i (i := .bipush 8) (k := 2) (pc' := 617) (n := Int32.ofNat 8) (by decide +kernel) rfl (by decide +kernel) rfl ?_
    refine ab_fin.brT (c := Int32.ofNat 8 ≤ Int32.ofNat k) (i := .if_icmp .ge 22) (off := 22) (t := 639) (r := []) (by decide +kernel) rfl (by decide +kernel) (by rw [show k = 8 by omega]; exact Int32.le_refl _) ?_
    rw [show k = 8 by omega]
    exact e
  | succ n ih =>
    intro k H l hk hl hm ho e
    refine ab_fin.s2 (i := .iload_n 1) (k := 1) (pc' := 615) (lv' := [(1, .int (Int32.ofNat k)), (0, .ref 0)]) (st' := [.int (Int32.ofNat k)]) (by decide +kernel) rfl rfl ?_
    refine ab_fin.s1i (i := .bipush 8) (k := 2) (pc' := 617) (n := Int32.ofNat 8) (by decide +kernel) rfl (by decide +kernel) rfl ?_
    refine ab_fin.brF (c := Int32.ofNat 8 ≤ Int32.ofNat k) (i := .if_icmp .ge 22) (off := 22) (t := 639) (pc' := 620) (r := []) (by decide +kernel) rfl (by decide +kernel) rfl (ab_ilt (by omega) (by omega)) ?_
    refine ab_fin.s2 (i := .aload_n 0) (k := 1) (pc' := 621) (lv' := [(1, .int (Int32.ofNat k)), (0, .ref 0)]) (st' := [.ref 0]) (by decide +kernel) rfl rfl ?_
    refine ab_fin.getf (ix := 44) (k := 3) (v := .ref 4) (pc' := 624) (by decide +kernel) rfl hm hF rfl ?_
    refine ab_fin.s2 (i := .iload_n 1) (k := 1) (pc' := 625) (lv' := [(1, .int (Int32.ofNat k)), (0, .ref 0)]) (st' := [.int (Int32.ofNat k), .ref 4]) (by decide +kernel) rfl rfl ?_
    refine ab_fin.newO (ix := 8) (n := H.length) (h1 := H ++ [hm_Name0]) (pc' := 628) (by decide +kernel) rfl rfl rfl rfl ?_
    refine ab_fin.s1 (i := .dup) (k := 1) (pc' := 629) (st' := [.ref H.length, .ref H.length, .int (Int32.ofNat k), .ref 4]) (by decide +kernel) rfl rfl ?_
    refine ab_fin.known (i := .invokespecial 978) (k := 3) (y := 4864) (As := [.ref H.length]) (rest := [.ref H.length, .int (Int32.ofNat k), .ref 4]) (M' := (mX19_init, [])) (v := none) (pc' := 632) (st' := [.ref H.length, .int (Int32.ofNat k), .ref 4]) (h1 := H ++ hm_Name H.length) (by decide +kernel) (ab_ci (Or.inr rfl) rfl rfl ⟨(Nat.le_of_ble_eq_true rfl), (Nat.le_of_ble_eq_true rfl)⟩ rfl) rfl (Nat.le_of_ble_eq_true rfl) (hm_Name_c h4 h5 h6 hd H rfl) rfl rfl ?_
    refine ab_fin.aast (h1 := (H ++ hm_Name H.length).set 4 (.inr (.inl (7, .inr (.inr (l.set k (some H.length))))))) (pc' := 633) (by decide +kernel) ((List.getElem?_append_right (Nat.le_refl _)).trans (by rw [Nat.sub_self]; rfl)) ((List.getElem?_append_left (List.getElem?_eq_some_iff.mp ho).1).trans ho) (by decide) (ab_ibd (by omega) (by omega)) ⟨rfl, rfl⟩ (by rw [Int32.toNatClampNeg_ofNat_of_lt (by omega)]) rfl ?_
    refine ab_fin.inc (i := .iinc 1 1) (k := 3) (pc' := 636) (j := 1) (n := Int32.ofNat (k + 1)) (lv' := [(0, .ref 0)]) (by decide +kernel) rfl (ab_i1 _) rfl ?_
    refine ab_fin.s3 (i := .goto (-22)) (k := 3) (t := 614) (st' := []) (by decide +kernel) (ab_goto (by decide +kernel)) ?_
    exact ih (k + 1) _ _ (by omega) (by rw [List.length_set]; exact hl) (hm_keep hm (by decide)) (hm_put ho) e
set_option maxRecDepth 100000 in
theorem hm_lpMethod {z4 z5 z6 : Value} {L : Nat} {xs : Nat → Int32} (h4 : z4 = .null ∨ z4 = .retAddr 4) (h5 : z5 = .null ∨ z5 = .retAddr 5) (h6 : z6 = .null ∨ z6 = .retAddr 6) {d : Nat} (hd : 12 ≤ d) {F : List Value} (hF : F[2]? = some (.ref 3)) {Q : ab_RX → List ab_E → Prop} : ∀ (n k : Nat) (H : List ab_E) (l : List (Option Nat)), k + n = 121 → l.length = 121 → H[0]? = some (.inr (.inr (24, F))) → H[3]? = some (.inr (.inl (6, .inr (.inr (l))))) → ab_fin (hb_Gz (some z4, some z5, some z6) (some (0, L, fun i => .int (xs i)))) hb_GT (d + 1) (mX23_init, []) 666 [(1, .int (Int32.ofNat 121)), (0, .ref 0)] [] (hm_it 3 6 hm_Method n k H l) Q → ab_fin (hb_Gz (some z4, some z5, some z6) (some (0, L, fun i => .int (xs i)))) hb_GT (d + 1) (mX23_init, []) 641 [(1, .int (Int32.ofNat k)), (0, .ref 0)] [] H Q := by
  intro n
  induction n with
  | zero =>
    intro k H l hk hl hm ho e
    refine ab_fin.s2 (i := .iload_n 1) (k := 1) (pc' := 642) (lv' := [(1, .int (Int32.ofNat k)), (0, .ref 0)]) (st' := [.int (Int32.ofNat k)]) (by decide +kernel) rfl rfl ?_
    refine ab_fin.s1i (i := .bipush 120) (k := 2) (pc' := 644) (n := Int32.ofNat 120) (by decide +kernel) rfl (by decide +kernel) rfl ?_
    refine ab_fin.brT (c := Int32.ofNat 120 < Int32.ofNat k) (i := .if_icmp .gt 22) (off := 22) (t := 666) (r := []) (by decide +kernel) rfl (by decide +kernel) (by rw [show k = 121 by omega]; decide) ?_
    rw [show k = 121 by omega]
    exact e
  | succ n ih =>
    intro k H l hk hl hm ho e
    refine ab_fin.s2 (i := .iload_n 1) (k := 1) (pc' := 642) (lv' := [(1, .int (Int32.ofNat k)), (0, .ref 0)]) (st' := [.int (Int32.ofNat k)]) (by decide +kernel) rfl rfl ?_
    refine ab_fin.s1i (i := .bipush 120) (k := 2) (pc' := 644) (n := Int32.ofNat 120) (by decide +kernel) rfl (by decide +kernel) rfl ?_
    refine ab_fin.brF (c := Int32.ofNat 120 < Int32.ofNat k) (i := .if_icmp .gt 22) (off := 22) (t := 666) (pc' := 647) (r := []) (by decide +kernel) rfl (by decide +kernel) rfl (fun q => by have := (Int32.ofNat_lt_iff_lt (a := 120) (b := k) (by omega) (by omega)).mp q; omega) ?_
    refine ab_fin.s2 (i := .aload_n 0) (k := 1) (pc' := 648) (lv' := [(1, .int (Int32.ofNat k)), (0, .ref 0)]) (st' := [.ref 0]) (by decide +kernel) rfl rfl ?_
    refine ab_fin.getf (ix := 315) (k := 2) (v := .ref 3) (pc' := 651) (by decide +kernel) rfl hm hF rfl ?_
    refine ab_fin.s2 (i := .iload_n 1) (k := 1) (pc' := 652) (lv' := [(1, .int (Int32.ofNat k)), (0, .ref 0)]) (st' := [.int (Int32.ofNat k), .ref 3]) (by decide +kernel) rfl rfl ?_
    refine ab_fin.newO (ix := 324) (n := H.length) (h1 := H ++ [hm_Method0]) (pc' := 655) (by decide +kernel) rfl rfl rfl rfl ?_
    refine ab_fin.s1 (i := .dup) (k := 1) (pc' := 656) (st' := [.ref H.length, .ref H.length, .int (Int32.ofNat k), .ref 3]) (by decide +kernel) rfl rfl ?_
    refine ab_fin.known (i := .invokespecial 965) (k := 3) (y := 4608) (As := [.ref H.length]) (rest := [.ref H.length, .int (Int32.ofNat k), .ref 3]) (M' := (mX18_init, [])) (v := none) (pc' := 659) (st' := [.ref H.length, .int (Int32.ofNat k), .ref 3]) (h1 := H ++ hm_Method H.length) (by decide +kernel) (ab_ci (Or.inr rfl) rfl rfl ⟨(Nat.le_of_ble_eq_true rfl), (Nat.le_of_ble_eq_true rfl)⟩ rfl) rfl (Nat.le_of_ble_eq_true rfl) (hm_Method_c h4 h5 h6 hd H rfl) rfl rfl ?_
    refine ab_fin.aast (h1 := (H ++ hm_Method H.length).set 3 (.inr (.inl (6, .inr (.inr (l.set k (some H.length))))))) (pc' := 660) (by decide +kernel) ((List.getElem?_append_right (Nat.le_refl _)).trans (by rw [Nat.sub_self]; rfl)) ((List.getElem?_append_left (List.getElem?_eq_some_iff.mp ho).1).trans ho) (by decide) (ab_ibd (by omega) (by omega)) ⟨rfl, rfl⟩ (by rw [Int32.toNatClampNeg_ofNat_of_lt (by omega)]) rfl ?_
    refine ab_fin.inc (i := .iinc 1 1) (k := 3) (pc' := 663) (j := 1) (n := Int32.ofNat (k + 1)) (lv' := [(0, .ref 0)]) (by decide +kernel) rfl (ab_i1 _) rfl ?_
    refine ab_fin.s3 (i := .goto (-22)) (k := 3) (t := 641) (st' := []) (by decide +kernel) (ab_goto (by decide +kernel)) ?_
    exact ih (k + 1) _ _ (by omega) (by rw [List.length_set]; exact hl) (hm_keep hm (by decide)) (hm_put ho) e
set_option maxRecDepth 100000 in
theorem hm_lpChoice {z4 z5 z6 : Value} {L : Nat} {xs : Nat → Int32} (h4 : z4 = .null ∨ z4 = .retAddr 4) (h5 : z5 = .null ∨ z5 = .retAddr 5) (h6 : z6 = .null ∨ z6 = .retAddr 6) {d : Nat} (hd : 12 ≤ d) {F : List Value} (hF : F[69]? = some (.ref 2129)) {Q : ab_RX → List ab_E → Prop} : ∀ (n k : Nat) (H : List ab_E) (l : List (Option Nat)), k + n = 48 → l.length = 48 → H[0]? = some (.inr (.inr (24, F))) → H[2129]? = some (.inr (.inl (13, .inr (.inr (l))))) → ab_fin (hb_Gz (some z4, some z5, some z6) (some (0, L, fun i => .int (xs i)))) hb_GT (d + 1) (mX23_init, []) 696 [(1, .int (Int32.ofNat 48)), (0, .ref 0)] [] (hm_it 2129 13 hm_Choice n k H l) Q → ab_fin (hb_Gz (some z4, some z5, some z6) (some (0, L, fun i => .int (xs i)))) hb_GT (d + 1) (mX23_init, []) 668 [(1, .int (Int32.ofNat k)), (0, .ref 0)] [] H Q := by
  intro n
  induction n with
  | zero =>
    intro k H l hk hl hm ho e
    refine ab_fin.s2 (i := .iload_n 1) (k := 1) (pc' := 669) (lv' := [(1, .int (Int32.ofNat k)), (0, .ref 0)]) (st' := [.int (Int32.ofNat k)]) (by decide +kernel) rfl rfl ?_
    refine ab_fin.s2 (i := .aload_n 0) (k := 1) (pc' := 670) (lv' := [(1, .int (Int32.ofNat k)), (0, .ref 0)]) (st' := [.ref 0, .int (Int32.ofNat k)]) (by decide +kernel) rfl rfl ?_
    refine ab_fin.getf (ix := 828) (k := 69) (v := .ref 2129) (pc' := 673) (by decide +kernel) rfl hm hF rfl ?_
    refine ab_fin.alen (n := Int32.ofNat 48) (pc' := 674) (by decide +kernel) ho (Or.inr rfl) (ab_ln (show List.length _ = 48 from hl) rfl) rfl ?_
    refine ab_fin.brT (c := Int32.ofNat 48 ≤ Int32.ofNat k) (i := .if_icmp .ge 22) (off := 22) (t := 696) (r := []) (by decide +kernel) rfl (by decide +kernel) (by rw [show k = 48 by omega]; exact Int32.le_refl _) ?_
    rw [show k = 48 by omega]
    exact e
  | succ n ih =>
    intro k H l hk hl hm ho e
    refine ab_fin.s2 (i := .iload_n 1) (k := 1) (pc' := 669) (lv' := [(1, .int (Int32.ofNat k)), (0, .ref 0)]) (st' := [.int (Int32.ofNat k)]) (by decide +kernel) rfl rfl ?_
    refine ab_fin.s2 (i := .aload_n 0) (k := 1) (pc' := 670) (lv' := [(1, .int (Int32.ofNat k)), (0, .ref 0)]) (st' := [.ref 0, .int (Int32.ofNat k)]) (by decide +kernel) rfl rfl ?_
    refine ab_fin.getf (ix := 828) (k := 69) (v := .ref 2129) (pc' := 673) (by decide +kernel) rfl hm hF rfl ?_
    refine ab_fin.alen (n := Int32.ofNat 48) (pc' := 674) (by decide +kernel) ho (Or.inr rfl) (ab_ln (show List.length _ = 48 from hl) rfl) rfl ?_
    refine ab_fin.brF (c := Int32.ofNat 48 ≤ Int32.ofNat k) (i := .if_icmp .ge 22) (off := 22) (t := 696) (pc' := 677) (r := []) (by decide +kernel) rfl (by decide +kernel) rfl (ab_ilt (by omega) (by omega)) ?_
    refine ab_fin.s2 (i := .aload_n 0) (k := 1) (pc' := 678) (lv' := [(1, .int (Int32.ofNat k)), (0, .ref 0)]) (st' := [.ref 0]) (by decide +kernel) rfl rfl ?_
    refine ab_fin.getf (ix := 828) (k := 69) (v := .ref 2129) (pc' := 681) (by decide +kernel) rfl hm hF rfl ?_
    refine ab_fin.s2 (i := .iload_n 1) (k := 1) (pc' := 682) (lv' := [(1, .int (Int32.ofNat k)), (0, .ref 0)]) (st' := [.int (Int32.ofNat k), .ref 2129]) (by decide +kernel) rfl rfl ?_
    refine ab_fin.newO (ix := 721) (n := H.length) (h1 := H ++ [hm_Choice0]) (pc' := 685) (by decide +kernel) rfl rfl rfl rfl ?_
    refine ab_fin.s1 (i := .dup) (k := 1) (pc' := 686) (st' := [.ref H.length, .ref H.length, .int (Int32.ofNat k), .ref 2129]) (by decide +kernel) rfl rfl ?_
    refine ab_fin.known (i := .invokespecial 979) (k := 3) (y := 3584) (As := [.ref H.length]) (rest := [.ref H.length, .int (Int32.ofNat k), .ref 2129]) (M' := (mX14_init, [])) (v := none) (pc' := 689) (st' := [.ref H.length, .int (Int32.ofNat k), .ref 2129]) (h1 := H ++ hm_Choice H.length) (by decide +kernel) (ab_ci (Or.inr rfl) rfl rfl ⟨(Nat.le_of_ble_eq_true rfl), (Nat.le_of_ble_eq_true rfl)⟩ rfl) rfl (Nat.le_of_ble_eq_true rfl) (hm_Choice_c h4 h5 h6 hd H rfl) rfl rfl ?_
    refine ab_fin.aast (h1 := (H ++ hm_Choice H.length).set 2129 (.inr (.inl (13, .inr (.inr (l.set k (some H.length))))))) (pc' := 690) (by decide +kernel) ((List.getElem?_append_right (Nat.le_refl _)).trans (by rw [Nat.sub_self]; rfl)) ((List.getElem?_append_left (List.getElem?_eq_some_iff.mp ho).1).trans ho) (by decide) (ab_ibd (by omega) (by omega)) ⟨rfl, rfl⟩ (by rw [Int32.toNatClampNeg_ofNat_of_lt (by omega)]) rfl ?_
    refine ab_fin.inc (i := .iinc 1 1) (k := 3) (pc' := 693) (j := 1) (n := Int32.ofNat (k + 1)) (lv' := [(0, .ref 0)]) (by decide +kernel) rfl (ab_i1 _) rfl ?_
    refine ab_fin.s3 (i := .goto (-25)) (k := 3) (t := 668) (st' := []) (by decide +kernel) (ab_goto (by decide +kernel)) ?_
    exact ih (k + 1) _ _ (by omega) (by rw [List.length_set]; exact hl) (hm_keep hm (by decide)) (hm_put ho) e

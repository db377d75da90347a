/-! the reference's constructor: the heap behind its loops -/
def hm_cs (C : Nat → List ab_E) (z : Nat) : Nat → Nat → List ab_E
  | 0, _ => []
  | n + 1, b => C b ++ hm_cs C z n (b + z)
def hm_ps (z : Nat) : Nat → Nat → Nat → List (Option Nat) → List (Option Nat)
  | 0, _, _, l => l
  | n + 1, k, b, l => hm_ps z n (k + 1) (b + z) (l.set k (some b))
theorem hm_it_eq {A t : Nat} {C : Nat → List ab_E} {z : Nat} (hC : ∀ b, (C b).length = z) : ∀ (n k : Nat) (H : List ab_E) (l : List (Option Nat)), H[A]? = some (.inr (.inl (t, .inr (.inr l)))) → hm_it A t C n k H l = (H ++ hm_cs C z n H.length).set A (.inr (.inl (t, .inr (.inr (hm_ps z n k H.length l)))))
  | 0, k, H, l, hA => by
    show H = (H ++ []).set A _
    rw [List.append_nil]
    exact (ab_set_same hA).symm
  | n + 1, k, H, l, hA => by
    show hm_it A t C n (k + 1) _ _ = _
    rw [hm_it_eq hC n (k + 1) _ _ (hm_put hA)]
    have hl : ((H ++ C H.length).set A (.inr (.inl (t, .inr (.inr (l.set k (some H.length))))))).length = H.length + z := by rw [List.length_set, List.length_append, hC]
    rw [hl]
    have hA9 := (List.getElem?_eq_some_iff.mp hA).1
    rw [← List.set_append_left _ _ (by rw [List.length_append]; omega), List.set_set, List.append_assoc]
    rfl
theorem hm_step {A t z N b : Nat} {C : Nat → List ab_E} (hC : ∀ b, (C b).length = z) {H : List ab_E} {l : List (Option Nat)} (hb : H.length = b) (hA : H[A]? = some (.inr (.inl (t, .inr (.inr l))))) : hm_it A t C N 0 H l = (H ++ hm_cs C z N b).set A (.inr (.inl (t, .inr (.inr (hm_ps z N 0 b l))))) := by
  subst hb
  exact hm_it_eq hC N 0 H l hA
def ab_leq : List Int32 → List Int32 → Bool
  | [], [] => true
  | a :: l, b :: k => if a = b then ab_leq l k else false
  | _, _ => false
theorem ab_leq_ok : ∀ {l k : List Int32}, ab_leq l k = true → l = k
  | [], [], _ => rfl
  | [], _ :: _, h => by cases h
  | _ :: _, [], h => by cases h
  | a :: l, b :: k, h => by
    unfold ab_leq at h
    split at h
    · rename_i e
      rw [e, ab_leq_ok h]
    · cases h
def ab_eqI (r : Option ab_E) (t : Nat) (l : List Int32) : Bool := match r with
  | some (.inr (.inl (u, .inl k))) => decide (u = t) && ab_leq k l
  | _ => false
theorem ab_eqI_ok {r : Option ab_E} {t : Nat} {l : List Int32} (hc : ab_eqI r t l = true) : r = some (.inr (.inl (t, .inl l))) := by
  unfold ab_eqI at hc
  split at hc
  · rw [Bool.and_eq_true, decide_eq_true_eq] at hc
    rw [hc.1, ab_leq_ok hc.2]
  · cases hc
def hm_H0 : List ab_E := .inr (.inr (24, hm_F)) :: hm_R
def hm_H1 : List ab_E := (hm_H0 ++ hm_cs hm_Kind 9 24 2193).set 1 (.inr (.inl (4, .inr (.inr (hm_ps 9 24 0 2193 (List.replicate 24 none))))))
def hm_H2 : List ab_E := (hm_H1 ++ hm_cs hm_Call 3 24 2409).set 2 (.inr (.inl (5, .inr (.inr (hm_ps 3 24 0 2409 (List.replicate 24 none))))))
def hm_H3 : List ab_E := (hm_H2 ++ hm_cs hm_Name 2 8 2481).set 4 (.inr (.inl (7, .inr (.inr (hm_ps 2 8 0 2481 (List.replicate 8 none))))))
def hm_H4 : List ab_E := (hm_H3 ++ hm_cs hm_Method 4 121 2497).set 3 (.inr (.inl (6, .inr (.inr (hm_ps 4 121 0 2497 (List.replicate 121 none))))))
def hm_H5 : List ab_E := (hm_H4 ++ hm_cs hm_Choice 8 48 2981).set 2129 (.inr (.inl (13, .inr (.inr (hm_ps 8 48 0 2981 (List.replicate 48 none))))))
theorem hm_H0_n : hm_H0.length = 2193 := by decide +kernel
theorem hm_H1_n : hm_H1.length = 2409 := by
  unfold hm_H1
  rw [List.length_set, List.length_append, hm_H0_n]
  decide +kernel
theorem hm_H2_n : hm_H2.length = 2481 := by
  unfold hm_H2
  rw [List.length_set, List.length_append, hm_H1_n]
  decide +kernel
theorem hm_H3_n : hm_H3.length = 2497 := by
  unfold hm_H3
  rw [List.length_set, List.length_append, hm_H2_n]
  decide +kernel
theorem hm_H4_n : hm_H4.length = 2981 := by
  unfold hm_H4
  rw [List.length_set, List.length_append, hm_H3_n]
  decide +kernel
theorem hm_H5_n : hm_H5.length = 3365 := by
  unfold hm_H5
  rw [List.length_set, List.length_append, hm_H4_n]
  decide +kernel
theorem hm_H0_0 : hm_H0[0]? = some (.inr (.inr (24, hm_F))) := ab_eqO_ok (by decide +kernel)
theorem hm_H0_A : hm_H0[1]? = some (.inr (.inl (4, .inr (.inr (List.replicate 24 none))))) := ab_eqO_ok (by decide +kernel)
theorem hm_H1_0 : hm_H1[0]? = some (.inr (.inr (24, hm_F))) := ab_eqO_ok (by decide +kernel)
theorem hm_H1_A : hm_H1[2]? = some (.inr (.inl (5, .inr (.inr (List.replicate 24 none))))) := ab_eqO_ok (by decide +kernel)
theorem hm_H2_0 : hm_H2[0]? = some (.inr (.inr (24, hm_F))) := ab_eqO_ok (by decide +kernel)
theorem hm_H2_A : hm_H2[4]? = some (.inr (.inl (7, .inr (.inr (List.replicate 8 none))))) := ab_eqO_ok (by decide +kernel)
theorem hm_H3_0 : hm_H3[0]? = some (.inr (.inr (24, hm_F))) := ab_eqO_ok (by decide +kernel)
theorem hm_H3_A : hm_H3[3]? = some (.inr (.inl (6, .inr (.inr (List.replicate 121 none))))) := ab_eqO_ok (by decide +kernel)
theorem hm_H4_0 : hm_H4[0]? = some (.inr (.inr (24, hm_F))) := ab_eqO_ok (by decide +kernel)
theorem hm_H4_A : hm_H4[2129]? = some (.inr (.inl (13, .inr (.inr (List.replicate 48 none))))) := ab_eqO_ok (by decide +kernel)
theorem hm_B0 : hm_H5[0]? = some (.inr (.inr (24, p1_ob0))) := ab_eqO_ok (by decide +kernel)
theorem hm_B1 : hm_H5[1]? = some (.inr (.inl (4, .inr (.inr (p1_ab1))))) := ab_eqO_ok (by decide +kernel)
theorem hm_B5 : hm_H5[5]? = some (.inr (.inr (22, p1_ob5))) := ab_eqO_ok (by decide +kernel)
theorem hm_B9 : hm_H5[9]? = some (.inr (.inl (8, .inr (.inr (p1_ab9))))) := ab_eqO_ok (by decide +kernel)
theorem hm_B10 : hm_H5[10]? = some (.inr (.inl (0, .inl (List.replicate 24 0)))) := ab_eqO_ok (by decide +kernel)
theorem hm_B11 : hm_H5[11]? = some (.inr (.inl (0, .inl (List.replicate 24 0)))) := ab_eqO_ok (by decide +kernel)
theorem hm_B35 : hm_H5[35]? = some (.inr (.inl (0, .inl (List.replicate 25 0)))) := ab_eqO_ok (by decide +kernel)
theorem hm_B36 : hm_H5[36]? = some (.inr (.inl (0, .inl (List.replicate 25 0)))) := ab_eqO_ok (by decide +kernel)
theorem hm_B1880 : hm_H5[1880]? = some (.inr (.inl (12, .inr (.inr (p1_ab1880))))) := ab_eqO_ok (by decide +kernel)
theorem hm_B1881 : hm_H5[1881]? = some (.inr (.inl (3, .inl (List.replicate 24 0)))) := ab_eqO_ok (by decide +kernel)
theorem hm_B1882 : hm_H5[1882]? = some (.inr (.inl (3, .inl (List.replicate 24 0)))) := ab_eqO_ok (by decide +kernel)
theorem hm_B1883 : hm_H5[1883]? = some (.inr (.inl (3, .inl (List.replicate 24 0)))) := ab_eqO_ok (by decide +kernel)
theorem hm_B1932 : hm_H5[1932]? = some (.inr (.inl (0, .inl (List.replicate 24 0)))) := ab_eqO_ok (by decide +kernel)
theorem hm_B2069 : hm_H5[2069]? = some (.inr (.inl (0, .inl (List.replicate 8192 0)))) := ab_eqI_ok (by decide +kernel)
theorem hm_B2193 : hm_H5[2193]? = some (.inr (.inr (18, p1_ob2193))) := ab_eqO_ok (by decide +kernel)
theorem hm_B2194 : hm_H5[2194]? = some (.inr (.inr (20, p1_ob2194))) := ab_eqO_ok (by decide +kernel)
theorem hm_B2195 : hm_H5[2195]? = some (.inr (.inl (2, .inl (List.replicate 16 0)))) := ab_eqO_ok (by decide +kernel)
theorem hm_B2196 : hm_H5[2196]? = some (.inr (.inl (0, .inl (List.replicate 24 0)))) := ab_eqO_ok (by decide +kernel)
theorem hm_B2197 : hm_H5[2197]? = some (.inr (.inl (8, .inr (.inr (p1_ab2197))))) := ab_eqO_ok (by decide +kernel)
theorem hm_B2198 : hm_H5[2198]? = some (.inr (.inl (0, .inl (List.replicate 24 0)))) := ab_eqO_ok (by decide +kernel)
theorem hm_B2199 : hm_H5[2199]? = some (.inr (.inl (0, .inl (List.replicate 24 0)))) := ab_eqO_ok (by decide +kernel)
theorem hm_B2200 : hm_H5[2200]? = some (.inr (.inl (0, .inl (List.replicate 24 0)))) := ab_eqO_ok (by decide +kernel)
theorem hm_B2201 : hm_H5[2201]? = some (.inr (.inl (0, .inl (List.replicate 3 0)))) := ab_eqO_ok (by decide +kernel)
theorem hm_B2202 : hm_H5[2202]? = some (.inr (.inr (18, p1_ob2202))) := ab_eqO_ok (by decide +kernel)
theorem hm_B2203 : hm_H5[2203]? = some (.inr (.inr (20, p1_ob2203))) := ab_eqO_ok (by decide +kernel)
theorem hm_B2204 : hm_H5[2204]? = some (.inr (.inl (2, .inl (List.replicate 16 0)))) := ab_eqO_ok (by decide +kernel)
theorem hm_B2205 : hm_H5[2205]? = some (.inr (.inl (0, .inl (List.replicate 24 0)))) := ab_eqO_ok (by decide +kernel)
theorem hm_B2206 : hm_H5[2206]? = some (.inr (.inl (8, .inr (.inr (p1_ab2206))))) := ab_eqO_ok (by decide +kernel)
theorem hm_B2207 : hm_H5[2207]? = some (.inr (.inl (0, .inl (List.replicate 24 0)))) := ab_eqO_ok (by decide +kernel)
theorem hm_B2208 : hm_H5[2208]? = some (.inr (.inl (0, .inl (List.replicate 24 0)))) := ab_eqO_ok (by decide +kernel)
theorem hm_B2209 : hm_H5[2209]? = some (.inr (.inl (0, .inl (List.replicate 24 0)))) := ab_eqO_ok (by decide +kernel)
theorem hm_B2210 : hm_H5[2210]? = some (.inr (.inl (0, .inl (List.replicate 3 0)))) := ab_eqO_ok (by decide +kernel)
theorem hm_B2211 : hm_H5[2211]? = some (.inr (.inr (18, p1_ob2211))) := ab_eqO_ok (by decide +kernel)
theorem hm_B2212 : hm_H5[2212]? = some (.inr (.inr (20, p1_ob2212))) := ab_eqO_ok (by decide +kernel)
theorem hm_B2213 : hm_H5[2213]? = some (.inr (.inl (2, .inl (List.replicate 16 0)))) := ab_eqO_ok (by decide +kernel)
theorem hm_B2214 : hm_H5[2214]? = some (.inr (.inl (0, .inl (List.replicate 24 0)))) := ab_eqO_ok (by decide +kernel)
theorem hm_B2215 : hm_H5[2215]? = some (.inr (.inl (8, .inr (.inr (p1_ab2215))))) := ab_eqO_ok (by decide +kernel)
theorem hm_B2216 : hm_H5[2216]? = some (.inr (.inl (0, .inl (List.replicate 24 0)))) := ab_eqO_ok (by decide +kernel)
theorem hm_B2217 : hm_H5[2217]? = some (.inr (.inl (0, .inl (List.replicate 24 0)))) := ab_eqO_ok (by decide +kernel)
theorem hm_B2218 : hm_H5[2218]? = some (.inr (.inl (0, .inl (List.replicate 24 0)))) := ab_eqO_ok (by decide +kernel)
theorem hm_B2219 : hm_H5[2219]? = some (.inr (.inl (0, .inl (List.replicate 3 0)))) := ab_eqO_ok (by decide +kernel)
/-- the reference, new -/
def hm_M : List ab_E := ab_ov hm_H5 hm_ov
set_option maxRecDepth 100000 in
theorem hm_new {z4 z5 z6 : Value} {L : Nat} {xs : Nat → Int32} (h4 : z4 = .null ∨ z4 = .retAddr 4) (h5 : z5 = .null ∨ z5 = .retAddr 5) (h6 : z6 = .null ∨ z6 = .retAddr 6) {d : Nat} : ab_ev (hb_Gz (some z4, some z5, some z6) (some (0, L, fun i => .int (xs i)))) hb_GT (d + 14) (mX23_init, []) 0 (lv_args 0 [.ref 0]) [] [.inr (.inr (24, hm_F0))] (.inl none) hm_M := by
  refine ab_fin.ev ?_
  show ab_fin _ _ (d + 13 + 1) _ 0 [(0, .ref 0)] [] _ _
  refine hm_straight h4 h5 h6 (by omega) ?_
  show ab_fin _ _ _ _ _ _ _ hm_H0 _
  refine ab_fin.s1i (i := .iconst 0) (k := 1) (pc' := 559) (n := Int32.ofNat 0) (by decide +kernel) rfl (by decide +kernel) rfl ?_
  refine ab_fin.s2 (i := .istore_n 1) (k := 1) (pc' := 560) (lv' := [(1, .int (Int32.ofNat 0)), (0, .ref 0)]) (st' := []) (by decide +kernel) rfl rfl ?_
  refine hm_lpKind h4 h5 h6 (by omega) (F := hm_F) rfl 24 0 _ (List.replicate 24 none) rfl List.length_replicate hm_H0_0 hm_H0_A ?_
  rw [hm_step (z := 9) (fun _ => rfl) hm_H0_n hm_H0_A]
  show ab_fin _ _ _ _ _ _ _ hm_H1 _
  refine ab_fin.s1i (i := .iconst 0) (k := 1) (pc' := 586) (n := Int32.ofNat 0) (by decide +kernel) rfl (by decide +kernel) rfl ?_
  refine ab_fin.s2 (i := .istore_n 1) (k := 1) (pc' := 587) (lv' := [(1, .int (Int32.ofNat 0)), (0, .ref 0)]) (st' := []) (by decide +kernel) rfl rfl ?_
  refine hm_lpCall h4 h5 h6 (by omega) (F := hm_F) rfl 24 0 _ (List.replicate 24 none) rfl List.length_replicate hm_H1_0 hm_H1_A ?_
  rw [hm_step (z := 3) (fun _ => rfl) hm_H1_n hm_H1_A]
  show ab_fin _ _ _ _ _ _ _ hm_H2 _
  refine ab_fin.s1i (i := .iconst 0) (k := 1) (pc' := 613) (n := Int32.ofNat 0) (by decide +kernel) rfl (by decide +kernel) rfl ?_
  refine ab_fin.s2 (i := .istore_n 1) (k := 1) (pc' := 614) (lv' := [(1, .int (Int32.ofNat 0)), (0, .ref 0)]) (st' := []) (by decide +kernel) rfl rfl ?_
  refine hm_lpName h4 h5 h6 (by omega) (F := hm_F) rfl 8 0 _ (List.replicate 8 none) rfl List.length_replicate hm_H2_0 hm_H2_A ?_
  rw [hm_step (z := 2) (fun _ => rfl) hm_H2_n hm_H2_A]
  show ab_fin _ _ _ _ _ _ _ hm_H3 _
  refine ab_fin.s1i (i := .iconst 0) (k := 1) (pc' := 640) (n := Int32.ofNat 0) (by decide +kernel) rfl (by decide +kernel) rfl ?_
  refine ab_fin.s2 (i := .istore_n 1) (k := 1) (pc' := 641) (lv' := [(1, .int (Int32.ofNat 0)), (0, .ref 0)]) (st' := []) (by decide +kernel) rfl rfl ?_
  refine hm_lpMethod h4 h5 h6 (by omega) (F := hm_F) rfl 121 0 _ (List.replicate 121 none) rfl List.length_replicate hm_H3_0 hm_H3_A ?_
  rw [hm_step (z := 4) (fun _ => rfl) hm_H3_n hm_H3_A]
  show ab_fin _ _ _ _ _ _ _ hm_H4 _
  refine ab_fin.s1i (i := .iconst 0) (k := 1) (pc' := 667) (n := Int32.ofNat 0) (by decide +kernel) rfl (by decide +kernel) rfl ?_
  refine ab_fin.s2 (i := .istore_n 1) (k := 1) (pc' := 668) (lv' := [(1, .int (Int32.ofNat 0)), (0, .ref 0)]) (st' := []) (by decide +kernel) rfl rfl ?_
  refine hm_lpChoice h4 h5 h6 (by omega) (F := hm_F) rfl 48 0 _ (List.replicate 48 none) rfl List.length_replicate hm_H4_0 hm_H4_A ?_
  rw [hm_step (z := 8) (fun _ => rfl) hm_H4_n hm_H4_A]
  show ab_fin _ _ _ _ _ _ _ hm_H5 _
  refine ab_fin.s2 (i := .aload_n 0) (k := 1) (pc' := 697) (lv' := [(1, .int (Int32.ofNat 48)), (0, .ref 0)]) (st' := [.ref 0]) (by decide +kernel) rfl rfl ?_
  refine ab_fin.known (i := .invokevirtual 980) (k := 3) (y := 5990) (As := [.ref 0]) (rest := []) (M' := (mX23_beginning, [])) (v := none) (pc' := 700) (st' := []) (h1 := hm_M) (by decide +kernel) (ab_cv rfl rfl hm_B0 ⟨(Nat.le_of_ble_eq_true rfl), (Nat.le_of_ble_eq_true rfl)⟩ rfl) rfl (Nat.le_of_ble_eq_true rfl) (ab_fin.ev (hm_begin (d := d + 1) h4 hm_H5 hm_H5_n hm_B0 hm_B1 hm_B5 hm_B9 hm_B10 hm_B11 hm_B35 hm_B36 hm_B1880 hm_B1881 hm_B1882 hm_B1883 hm_B1932 hm_B2069 hm_B2193 hm_B2194 hm_B2195 hm_B2196 hm_B2197 hm_B2198 hm_B2199 hm_B2200 hm_B2201 hm_B2202 hm_B2203 hm_B2204 hm_B2205 hm_B2206 hm_B2207 hm_B2208 hm_B2209 hm_B2210 hm_B2211 hm_B2212 hm_B2213 hm_B2214 hm_B2215 hm_B2216 hm_B2217 hm_B2218 hm_B2219)) rfl rfl ?_
  exact ab_fin.ret (i := .return_) (k := 1) none (by decide +kernel) rfl ⟨rfl, rfl⟩
theorem hm_z1 (e : ab_E) : ab_z [e] = ab_z1 e := rfl
theorem hm_zs0 : ab_z ([.inr (.inl (4, .inr (.inr (List.replicate 24 none))))]) = 24 := by
  simp only [hm_z1, ab_z1, ab_len, List.length_replicate]
theorem hm_zs1 : ab_z ([.inr (.inl (5, .inr (.inr (List.replicate 24 none))))]) = 24 := by
  simp only [hm_z1, ab_z1, ab_len, List.length_replicate]
theorem hm_zs2 : ab_z ([.inr (.inl (6, .inr (.inr (List.replicate 121 none))))]) = 121 := by
  simp only [hm_z1, ab_z1, ab_len, List.length_replicate]
theorem hm_zs3 : ab_z ([.inr (.inl (7, .inr (.inr (List.replicate 8 none))))]) = 8 := by
  simp only [hm_z1, ab_z1, ab_len, List.length_replicate]
theorem hm_zs4 : ab_z (hm_Nodes 5) = 5 := by decide +kernel
theorem hm_zs5 : ab_z (hm_Nodes 7) = 5 := by decide +kernel
theorem hm_zs6 : ab_z (ab_mk [8, 0] [25, 24] 9) = 625 := by decide +kernel
theorem hm_zs7 : ab_z ([.inr (.inl (0, .inl (List.replicate 25 0)))]) = 25 := by
  simp only [hm_z1, ab_z1, ab_len, List.length_replicate]
theorem hm_zs8 : ab_z ([.inr (.inl (0, .inl (List.replicate 25 0)))]) = 25 := by
  simp only [hm_z1, ab_z1, ab_len, List.length_replicate]
theorem hm_zs9 : ab_z ([.inr (.inl (2, .inl (List.replicate 8192 0)))]) = 8192 := by
  simp only [hm_z1, ab_z1, ab_len, List.length_replicate]
theorem hm_zs10 : ab_z (hm_Kind 38) = 126 := by decide +kernel
theorem hm_zs11 : ab_z (hm_Call 47) = 22 := by decide +kernel
theorem hm_zs12 : ab_z (hm_Method 50) = 20 := by decide +kernel
theorem hm_zs13 : ab_z ([.inr (.inl (0, .inl (List.replicate 64 0)))]) = 64 := by
  simp only [hm_z1, ab_z1, ab_len, List.length_replicate]
theorem hm_zs14 : ab_z (ab_mk [9, 10, 11, 1] [24, 3, 24, 2] 55) = 5280 := by decide +kernel
theorem hm_zs15 : ab_z (ab_mk [12, 3] [24, 24] 1880) = 600 := by decide +kernel
theorem hm_zs16 : ab_z (ab_mk [11, 1] [24, 2] 1905) = 72 := by decide +kernel
theorem hm_zs17 : ab_z ([.inr (.inl (0, .inl (List.replicate 24 0)))]) = 24 := by
  simp only [hm_z1, ab_z1, ab_len, List.length_replicate]
theorem hm_zs18 : ab_z ([.inr (.inl (0, .inl (List.replicate 24 0)))]) = 24 := by
  simp only [hm_z1, ab_z1, ab_len, List.length_replicate]
theorem hm_zs19 : ab_z ([.inr (.inl (0, .inl (List.replicate 24 0)))]) = 24 := by
  simp only [hm_z1, ab_z1, ab_len, List.length_replicate]
theorem hm_zs20 : ab_z ([.inr (.inl (0, .inl (List.replicate 128 0)))]) = 128 := by
  simp only [hm_z1, ab_z1, ab_len, List.length_replicate]
theorem hm_zs21 : ab_z ([.inr (.inl (0, .inl (List.replicate 128 0)))]) = 128 := by
  simp only [hm_z1, ab_z1, ab_len, List.length_replicate]
theorem hm_zs22 : ab_z ([.inr (.inl (0, .inl (List.replicate 128 0)))]) = 128 := by
  simp only [hm_z1, ab_z1, ab_len, List.length_replicate]
theorem hm_zs23 : ab_z ([.inr (.inl (1, .inr (.inl (List.replicate 128 0))))]) = 128 := by
  simp only [hm_z1, ab_z1, ab_len, List.length_replicate]
theorem hm_zs24 : ab_z (ab_mk [11, 1] [129, 16] 1937) = 2193 := by decide +kernel
theorem hm_zs25 : ab_z ([.inr (.inl (0, .inl (List.replicate 8 0)))]) = 8 := by
  simp only [hm_z1, ab_z1, ab_len, List.length_replicate]
theorem hm_zs26 : ab_z ([.inr (.inl (3, .inl (List.replicate 256 0)))]) = 256 := by
  simp only [hm_z1, ab_z1, ab_len, List.length_replicate]
theorem hm_zs27 : ab_z ([.inr (.inl (0, .inl (List.replicate 8192 0)))]) = 8192 := by
  simp only [hm_z1, ab_z1, ab_len, List.length_replicate]
theorem hm_zs28 : ab_z ([.inr (.inl (2, .inl (List.replicate 8192 0)))]) = 8192 := by
  simp only [hm_z1, ab_z1, ab_len, List.length_replicate]
theorem hm_zs29 : ab_z (ab_mk [11, 1] [24, 3] 2071) = 96 := by decide +kernel
theorem hm_zs30 : ab_z (ab_mk [11, 1] [24, 3] 2096) = 96 := by decide +kernel
theorem hm_zs31 : ab_z (ab_mk [8, 0] [3, 24] 2121) = 75 := by decide +kernel
theorem hm_zs32 : ab_z ([.inr (.inl (0, .inl (List.replicate 3 0)))]) = 3 := by
  simp only [hm_z1, ab_z1, ab_len, List.length_replicate]
theorem hm_zs33 : ab_z ([.inr (.inl (1, .inr (.inl (List.replicate 65536 0))))]) = 65536 := by
  simp only [hm_z1, ab_z1, ab_len, List.length_replicate]
theorem hm_zs34 : ab_z ([.inr (.inl (1, .inr (.inl (List.replicate 65536 0))))]) = 65536 := by
  simp only [hm_z1, ab_z1, ab_len, List.length_replicate]
theorem hm_zs35 : ab_z ([.inr (.inl (3, .inl (List.replicate 65536 0)))]) = 65536 := by
  simp only [hm_z1, ab_z1, ab_len, List.length_replicate]
theorem hm_zs36 : ab_z ([.inr (.inl (13, .inr (.inr (List.replicate 48 none))))]) = 48 := by
  simp only [hm_z1, ab_z1, ab_len, List.length_replicate]
theorem hm_zs37 : ab_z ([.inr (.inl (0, .inl (List.replicate 120 0)))]) = 120 := by
  simp only [hm_z1, ab_z1, ab_len, List.length_replicate]
theorem hm_zs38 : ab_z ([.inr (.inl (0, .inl (List.replicate 120 0)))]) = 120 := by
  simp only [hm_z1, ab_z1, ab_len, List.length_replicate]
theorem hm_zs39 : ab_z (hm_Failed 2132) = 6 := by decide +kernel
theorem hm_zs40 : ab_z (hm_Ended 2133) = 6 := by decide +kernel
theorem hm_zs41 : ab_z ([.inr (.inl (0, .inl (List.replicate 512 0)))]) = 512 := by
  simp only [hm_z1, ab_z1, ab_len, List.length_replicate]
theorem hm_zs42 : ab_z ([.inr (.inl (0, .inl (List.replicate 512 0)))]) = 512 := by
  simp only [hm_z1, ab_z1, ab_len, List.length_replicate]
theorem hm_zs43 : ab_z (ab_mk [11, 1] [42, 16] 2136) = 714 := by decide +kernel
theorem hm_zs44 : ab_z ([.inr (.inl (6, .inr (.inr (List.replicate 42 none))))]) = 42 := by
  simp only [hm_z1, ab_z1, ab_len, List.length_replicate]
theorem hm_zs45 : ab_z ([.inr (.inl (13, .inr (.inr (List.replicate 42 none))))]) = 42 := by
  simp only [hm_z1, ab_z1, ab_len, List.length_replicate]
theorem hm_zs46 : ab_z ([.inr (.inl (0, .inl (List.replicate 42 0)))]) = 42 := by
  simp only [hm_z1, ab_z1, ab_len, List.length_replicate]
theorem hm_zs47 : ab_z ([.inr (.inl (0, .inl (List.replicate 3 0)))]) = 3 := by
  simp only [hm_z1, ab_z1, ab_len, List.length_replicate]
theorem hm_zs48 : ab_z ([.inr (.inl (0, .inl (List.replicate 3 0)))]) = 3 := by
  simp only [hm_z1, ab_z1, ab_len, List.length_replicate]
theorem hm_zs49 : ab_z ([.inr (.inl (0, .inl (List.replicate 3 0)))]) = 3 := by
  simp only [hm_z1, ab_z1, ab_len, List.length_replicate]
theorem hm_zs50 : ab_z ([.inr (.inl (0, .inl (List.replicate 3 0)))]) = 3 := by
  simp only [hm_z1, ab_z1, ab_len, List.length_replicate]
theorem hm_zs51 : ab_z ([.inr (.inl (0, .inl (List.replicate 120 0)))]) = 120 := by
  simp only [hm_z1, ab_z1, ab_len, List.length_replicate]
theorem hm_zs52 : ab_z ([.inr (.inl (0, .inl (List.replicate 120 0)))]) = 120 := by
  simp only [hm_z1, ab_z1, ab_len, List.length_replicate]
theorem hm_zs53 : ab_z ([.inr (.inl (0, .inl (List.replicate 3 0)))]) = 3 := by
  simp only [hm_z1, ab_z1, ab_len, List.length_replicate]
theorem hm_zs54 : ab_z ([.inr (.inl (0, .inl (List.replicate 120 0)))]) = 120 := by
  simp only [hm_z1, ab_z1, ab_len, List.length_replicate]
theorem hm_zs55 : ab_z ([.inr (.inl (3, .inl (List.replicate 256 0)))]) = 256 := by
  simp only [hm_z1, ab_z1, ab_len, List.length_replicate]
theorem hm_zs56 : ab_z ([.inr (.inl (2, .inl (List.replicate 1024 0)))]) = 1024 := by
  simp only [hm_z1, ab_z1, ab_len, List.length_replicate]
theorem hm_zs57 : ab_z ([.inr (.inl (0, .inl (List.replicate 3 0)))]) = 3 := by
  simp only [hm_z1, ab_z1, ab_len, List.length_replicate]
theorem hm_zR : ab_z hm_R = 235363 := by
  unfold hm_R
  simp only [ab_z_app, hm_zs0, hm_zs1, hm_zs2, hm_zs3, hm_zs4, hm_zs5, hm_zs6, hm_zs7, hm_zs8, hm_zs9, hm_zs10, hm_zs11, hm_zs12, hm_zs13, hm_zs14, hm_zs15, hm_zs16, hm_zs17, hm_zs18, hm_zs19, hm_zs20, hm_zs21, hm_zs22, hm_zs23, hm_zs24, hm_zs25, hm_zs26, hm_zs27, hm_zs28, hm_zs29, hm_zs30, hm_zs31, hm_zs32, hm_zs33, hm_zs34, hm_zs35, hm_zs36, hm_zs37, hm_zs38, hm_zs39, hm_zs40, hm_zs41, hm_zs42, hm_zs43, hm_zs44, hm_zs45, hm_zs46, hm_zs47, hm_zs48, hm_zs49, hm_zs50, hm_zs51, hm_zs52, hm_zs53, hm_zs54, hm_zs55, hm_zs56, hm_zs57]
set_option maxRecDepth 100000 in
theorem hm_zH0 : ab_z hm_H0 ≤ 235478 := by
  have e : hm_H0 = [.inr (.inr (24, hm_F))] ++ hm_R := rfl
  rw [e, ab_z_app, hm_zR]
  decide +kernel
theorem hm_zc0 : ab_z (hm_cs hm_Kind 9 24 2193) = 3024 := by decide +kernel
theorem hm_zH1 : ab_z hm_H1 ≤ 238526 := by
  unfold hm_H1
  refine Nat.le_trans (ab_z_setle _ _ _) ?_
  rw [ab_z_app, hm_zc0, show ab_z1 (.inr (.inl (4, .inr (.inr (hm_ps 9 24 0 2193 (List.replicate 24 none)))))) = 24 from by decide +kernel]
  exact Nat.le_trans (Nat.add_le_add_right (Nat.add_le_add_right hm_zH0 _) _) (by decide)
theorem hm_zc1 : ab_z (hm_cs hm_Call 3 24 2409) = 528 := by decide +kernel
theorem hm_zH2 : ab_z hm_H2 ≤ 239078 := by
  unfold hm_H2
  refine Nat.le_trans (ab_z_setle _ _ _) ?_
  rw [ab_z_app, hm_zc1, show ab_z1 (.inr (.inl (5, .inr (.inr (hm_ps 3 24 0 2409 (List.replicate 24 none)))))) = 24 from by decide +kernel]
  exact Nat.le_trans (Nat.add_le_add_right (Nat.add_le_add_right hm_zH1 _) _) (by decide)
theorem hm_zc2 : ab_z (hm_cs hm_Name 2 8 2481) = 144 := by decide +kernel
theorem hm_zH3 : ab_z hm_H3 ≤ 239230 := by
  unfold hm_H3
  refine Nat.le_trans (ab_z_setle _ _ _) ?_
  rw [ab_z_app, hm_zc2, show ab_z1 (.inr (.inl (7, .inr (.inr (hm_ps 2 8 0 2481 (List.replicate 8 none)))))) = 8 from by decide +kernel]
  exact Nat.le_trans (Nat.add_le_add_right (Nat.add_le_add_right hm_zH2 _) _) (by decide)
theorem hm_zc3 : ab_z (hm_cs hm_Method 4 121 2497) = 2420 := by decide +kernel
theorem hm_zH4 : ab_z hm_H4 ≤ 241771 := by
  unfold hm_H4
  refine Nat.le_trans (ab_z_setle _ _ _) ?_
  rw [ab_z_app, hm_zc3, show ab_z1 (.inr (.inl (6, .inr (.inr (hm_ps 4 121 0 2497 (List.replicate 121 none)))))) = 121 from by decide +kernel]
  exact Nat.le_trans (Nat.add_le_add_right (Nat.add_le_add_right hm_zH3 _) _) (by decide)
theorem hm_zc4 : ab_z (hm_cs hm_Choice 8 48 2981) = 23808 := by decide +kernel
theorem hm_zH5 : ab_z hm_H5 ≤ 265627 := by
  unfold hm_H5
  refine Nat.le_trans (ab_z_setle _ _ _) ?_
  rw [ab_z_app, hm_zc4, show ab_z1 (.inr (.inl (13, .inr (.inr (hm_ps 8 48 0 2981 (List.replicate 48 none)))))) = 48 from by decide +kernel]
  exact Nat.le_trans (Nat.add_le_add_right (Nat.add_le_add_right hm_zH4 _) _) (by decide)
theorem hm_zM : ab_z hm_M ≤ 274499 := by
  refine Nat.le_trans (ab_ov_z _ _) ?_
  simp only [hm_ov, List.map, List.sum_cons, List.sum_nil, ab_z1, ab_len, List.length_set, List.length_replicate, p1_nb0, p1_nb1, p1_nb5, p1_nb9, p1_nb1880, p1_nb2193, p1_nb2194, p1_nb2197, p1_nb2202, p1_nb2203, p1_nb2206, p1_nb2211, p1_nb2212, p1_nb2215]
  exact Nat.le_trans (Nat.add_le_add_right hm_zH5 _) (by decide)
theorem hm_M_n : hm_M.length = 3365 := (ab_ov_len _ _).trans hm_H5_n

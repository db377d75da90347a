/-! THE REFERENCE'S READER: arguments() -/
def AgT (σ : Sg) (lst : List Nat) (i m v : Nat) (l : List Ast) : Prop := TrN σ (Rg lst (i + 1) m) (l.getD 0 .nil) (σ.r v 5) ∧ TrN σ (Rg lst (i + 1) m) (l.getD 1 .nil) (σ.r v 6) ∧ TrN σ (Rg lst (i + 1) m) (l.getD 2 .nil) (σ.r v 7)
section ARG2
variable {Z : zT} {d : Nat} {t : Nat → Int32} {n N : Nat} {env : Env} {B : Int32 × Int32} {o : Nat} {vs : List (Nat × Nat)} {i v : Nat} {f : Pf} {most : Nat} {E : Evs}
theorem AgT.fr {nv : Nat} {σ τ : Sg} {p c : Nat} {es : Evs} {m : Nat} {lst lst' : List Nat} {cap cap' u : Nat} {W : Nat → Prop} {l : List Ast} (T : AgT σ lst i m v l) (S : RS t n N env (B.1, B.2, Rf.ptr N) σ p c o vs es m lst cap u) (G : RF N nv σ τ lst cap lst' cap' W) (hW : ∀ j, i + 1 ≤ j → j < m → ¬ W j) (hr : τ.r v = σ.r v) : AgT τ lst' i m v l := by
  unfold AgT at T ⊢
  rw [hr]
  exact ⟨T.1.fr S G hW, T.2.1.fr S G hW, T.2.2.fr S G hW⟩
theorem AgT.wk {σ : Sg} {lst : List Nat} {m m' : Nat} {l : List Ast} (T : AgT σ lst i m v l) (h : m ≤ m') : AgT σ lst i m' v l := ⟨T.1.wk (Nat.le_refl _) h, T.2.1.wk (Nat.le_refl _) h, T.2.2.wk (Nat.le_refl _) h⟩
theorem gD_app {l : List Ast} {x : Ast} {k : Nat} (h : k ≠ l.length) : (l ++ [x]).getD k .nil = l.getD k .nil := by
  by_cases q : k < l.length
  · rw [List.getD_eq_getElem?_getD, List.getD_eq_getElem?_getD, List.getElem?_append_left q]
  · rw [List.getD_eq_getElem?_getD, List.getD_eq_getElem?_getD, List.getElem?_eq_none (by rw [List.length_append]; show l.length + 1 ≤ k; omega), List.getElem?_eq_none (by omega)]
theorem gD_len (l : List Ast) (x : Ast) : (l ++ [x]).getD l.length .nil = x := by
  rw [List.getD_eq_getElem?_getD, List.getElem?_append_right (Nat.le_refl _), Nat.sub_self]
  rfl
theorem rs_args (hZ : ZK Z) (hd : 19 ≤ d) (He : Fol t n N env B f o (B_X23_e_0 Z d)) (hmo : most ≤ 3) : ∀ (k : Nat) (σ : Sg) (p c : Nat) (es : Evs) (m : Nat) (lst : List Nat) (cap u : Nat) (l : List Ast) (K : kS), n - p < k → l.length + k ≤ 8300 → RS t n N env (B.1, B.2, Rf.ptr N) σ p c o vs (E ++ es) m lst cap u → u + 2 ≤ 23000 → (tyS t n p = 4 ∨ tyS t n p = 6) → i < m → lst[i]? = some v → σ.i v 4 = Int32.ofNat l.length → AgT σ lst i m v l →
    (∀ p' c' es' l', pAr t n f most (vsN t vs) k p c es l = .inr (p', c', es', l') → ∀ τ m' lst' cap', RS t n N env (B.1, B.2, Rf.ptr N) τ p' c' o vs (E ++ es') m' lst' cap' u → RF N vs.length σ τ lst cap lst' cap' (fun j => j = i ∨ m ≤ j) → m ≤ m' → p ≤ p' → lst'[i]? = some v → τ.sh[v]? = some (Sh.obj 21) → τ.i v 4 = Int32.ofNat l'.length → AgT τ lst' i m' v l' → (∀ x, x ≠ 4 → τ.i v x = σ.i v x) → K (.inl none) τ) →
    (∀ q, pAr t n f most (vsN t vs) k p c es l = .inl q → ∀ τ a, WR n N vs.length σ lst i cap τ a q → K (.inr ("DispatchHouseModel$Wrong", a)) τ) → B_X23_arguments_0 Z (d + 1) σ (Rf.ptr v) (Int32.ofNat most) K := by
  intro k
  induction k with
  | zero => intro σ p c es m lst cap u l K h; omega
  | succ k ih =>
    intro σ p c es m lst cap u l K hk hlk S hu hty hi hv h4 hA h1 h0
    have hp : p < n := ty_pos (t := t) (by omega)
    have hg := nxS_gt (t := t) hp
    have hpn := S.pn
    have hnx := nxS_le t (n := n) (p := p) (by omega)
    obtain ⟨b1, b2, b3, b4, b5⟩ := S.bd
    -- behind the sign
    have go25 : ∀ (τ : Sg), RS t n N env (B.1, B.2, Rf.ptr N) τ (nxS t n p) c o vs (E ++ (es ++ (if 0 < most ∧ l.length = most then [(nxS t n p, 4)] else []))) m lst cap (u - 2) → RF N vs.length σ τ lst cap lst cap (fun _ => False) → B_X23_arguments_25 Z (d + 1) τ (Rf.ptr v) (Int32.ofNat most) K := by
      intro τ S1 G1
      obtain ⟨v1, v2, v3, v4⟩ := nd_keep S G1 hv (fun z => z)
      have A1 := hA.fr S G1 (fun _ _ _ z => z) v4
      refine S_X23_arguments_25 S1.fx ?_
      refine He τ _ c vs _ m lst cap (u - 2) _ S1 (by omega) (fun p2 c2 es2 x hf τ2 m2 lst2 cap2 r S2 G2 hm2 hp2 T2 hr => Or.inl ⟨r, rfl, v, rfl, ?_⟩) (fun q hf τ2 a w => Or.inr ⟨_, rfl, ?_⟩)
      · obtain ⟨w1, w2, w3, w4⟩ := nd_keep S1 G2 hv (by omega)
        have hv2 := G2.pre i v hv
        have A2 := A1.fr S1 G2 (fun j j1 j2 => by omega) w4
        have e4 : τ2.i v 4 = Int32.ofNat l.length := by rw [w2, v2, h4]
        have ei : ∀ y, τ2.i v y = σ.i v y := fun y => by rw [w2, v2]
        have H2 : RF N vs.length σ τ2 lst cap lst2 cap2 (fun j => j = i ∨ m ≤ j) := (G1.wk (W := fun j => j = i ∨ m ≤ j) (fun _ z => z.elim) (Nat.le_refl _)).tr G2 (fun j hj => Or.inr hj) (Nat.le_refl _)
        have epA : pAr t n f most (vsN t vs) (k + 1) p c es l = if tyS t n p2 = 6 then pAr t n f most (vsN t vs) k p2 c2 (es ++ (if 0 < most ∧ l.length = most then [(nxS t n p, 4)] else []) ++ es2) (l ++ [x]) else if tyS t n p2 = 5 then .inr (nxS t n p2, c2, es ++ (if 0 < most ∧ l.length = most then [(nxS t n p, 4)] else []) ++ es2 ++ (if 0 < most ∧ l.length + 1 < most then [(p2, 4)] else []), l ++ [x]) else .inl p2 := by
          rw [pAr, hf]
        have hpn2 := S2.pn
        have hll : (l ++ [x]).length = l.length + 1 := by
          rw [List.length_append]
          rfl
        -- the argument is in its place
        have go74 : ∀ (τ3 : Sg), RS t n N env (B.1, B.2, Rf.ptr N) τ3 p2 c2 o vs (E ++ (es ++ (if 0 < most ∧ l.length = most then [(nxS t n p, 4)] else [])) ++ es2) m2 lst2 cap2 (u - 2) → RF N vs.length σ τ3 lst cap lst2 cap2 (fun j => j = i ∨ m ≤ j) → (∀ y, τ3.i v y = σ.i v y) → AgT τ3 lst2 i m2 v (l ++ [x]) → B_X23_arguments_74 Z (d + 1) τ3 v (Int32.ofNat most) K := by
          intro τ3 S3 H3 ei3 A3
          have hs3 := S3.ls.2.2.2.1 v (List.mem_of_getElem? hv2)
          have e43 : τ3.i v 4 + 1 = Int32.ofNat (l.length + 1) := by rw [ei3, h4, oN_1]
          refine S_X23_arguments_74 S3.fx ⟨hs3, ?_⟩
          rw [e43]
          obtain ⟨S4, G4⟩ := S3.nwi (k := 4) (x := Int32.ofNat (l.length + 1)) hv2
          have H4 : RF N vs.length σ (τ3.wi v 4 (Int32.ofNat (l.length + 1))) lst cap lst2 cap2 (fun j => j = i ∨ m ≤ j) := H3.tr G4 (fun j hj => Or.inl hj) (Nat.le_refl _)
          have A4 : AgT (τ3.wi v 4 (Int32.ofNat (l.length + 1))) lst2 i m2 v (l ++ [x]) := A3.fr S3 G4 (fun j j1 j2 j3 => by omega) rfl
          have hs4 : (τ3.wi v 4 (Int32.ofNat (l.length + 1))).sh[v]? = some (Sh.obj 21) := hs3
          have e44 : (τ3.wi v 4 (Int32.ofNat (l.length + 1))).i v 4 = Int32.ofNat (l.length + 1) := wi_at _ _ _ _
          have ei4 : ∀ y, y ≠ 4 → (τ3.wi v 4 (Int32.ofNat (l.length + 1))).i v y = σ.i v y := fun y hy => (wi_ne (by omega)).trans (ei3 y)
          have ees : E ++ (es ++ (if 0 < most ∧ l.length = most then [(nxS t n p, 4)] else [])) ++ es2 = E ++ (es ++ (if 0 < most ∧ l.length = most then [(nxS t n p, 4)] else []) ++ es2) := by rw [List.append_assoc]
          rw [ees] at S4
          -- ')'
          have gow : ∀ (τ5 : Sg) (es5 : Evs), RS t n N env (B.1, B.2, Rf.ptr N) τ5 p2 c2 o vs (E ++ (es ++ (if 0 < most ∧ l.length = most then [(nxS t n p, 4)] else []) ++ es2 ++ es5)) m2 lst2 cap2 (u - 2) → RF N vs.length (τ3.wi v 4 (Int32.ofNat (l.length + 1))) τ5 lst2 cap2 lst2 cap2 (fun _ => False) → tyS t n p2 ≠ 6 → (if 0 < most ∧ l.length + 1 < most then [(p2, 4)] else []) = es5 → ∀ K', (∀ τ, K (.inl none) τ → K' (.inl none) τ) → (∀ τ e, K (.inr e) τ → K' (.inr e) τ) → B_X23_want_0 Z d τ5 41 K' := by
            intro τ5 es5 S5 G5 h6 he K' hK1 hK2
            rw [if_neg h6, he] at epA
            rw [epA] at h1 h0
            obtain ⟨y1, y2, y3, y4⟩ := nd_keep S4 G5 hv2 (fun z => z)
            refine rs_want (y := 5) (by decide) hZ (by omega) S5 (fun h5 τ6 S6 G6 => hK1 _ ?_) (fun h5 τ6 a w => hK2 _ _ ?_)
            · rw [if_pos h5] at h1
              obtain ⟨z1, z2, z3, z4⟩ := nd_keep S5 G6 (G5.pre i v hv2) (fun z => z)
              have hp5 := nxS_gt (t := t) (n := n) (p := p2) (ty_pos (t := t) (by omega))
              refine h1 _ _ _ _ rfl τ6 m2 lst2 cap2 (S6.wk (by omega) (by omega)) ((H4.tr G5 (fun _ z => z.elim) (Nat.le_refl _)).tr G6 (fun _ z => z.elim) (Nat.le_refl _)) hm2 (by omega) hv2 z1 ?_ ((A4.fr S4 G5 (fun _ _ _ z => z) y4).fr S5 G6 (fun _ _ _ z => z) z4) (fun y hy => ?_)
              · rw [z2, y2, hll]
                exact e44
              · rw [z2, y2]
                exact ei4 y hy
            · rw [if_neg h5] at h0
              exact h0 _ rfl τ6 a (w.tr (m0 := i) (H4.tr G5 (fun _ z => z.elim) (Nat.le_refl _)) (fun j hj => by omega) (by omega) (Nat.le_refl _))
          refine rs_is (y := 6) (by decide) (by omega) S4 (fun h6 => ⟨fun _ => ?_, fun z => absurd z (by decide)⟩) (fun h6 => ⟨fun z => absurd rfl z, fun _ => ⟨fun hle => ?_, fun hgt => ⟨hs4, fun hle => ?_, fun hlt => ?_⟩⟩⟩)
          · rw [if_pos h6] at epA
            rw [epA] at h1 h0
            refine ih (τ3.wi v 4 (Int32.ofNat (l.length + 1))) p2 c2 _ m2 lst2 cap2 (u - 2) (l ++ [x]) K (by omega) (by rw [hll]; omega) S4 (by omega) (Or.inr h6) (by omega) hv2 (by rw [hll]; exact e44) A4 (fun p' c' es' l' hpa τ m' lst' cap' S' G' hm' hp' hv' hs' h4' hA' hi' => h1 p' c' es' l' hpa τ m' lst' cap' (S'.wk (by omega) (by omega)) (H4.tr G' (fun j hj => by omega) (Nat.le_refl _)) (by omega) (by omega) hv' hs' h4' hA' (fun y hy => (hi' y hy).trans (ei4 y hy))) (fun q hpa τ a w => h0 q hpa τ a (w.tr (m0 := i) H4 (fun j hj => by omega) (Nat.le_refl _) (Nat.le_refl _)))
          · have hm0 : most = 0 := by
              have := (oN_le (b := 0) (by omega) (by omega)).mp hle
              omega
            exact gow _ [] (by rw [List.append_nil]; exact S4) (RF.refl _ _ _ _ _ _) h6 (if_neg (by omega)) _ (fun _ z => z) (fun _ _ z => z)
          · rw [e44] at hle
            have := (oN_le (by omega) (by omega)).mp hle
            exact gow _ [] (by rw [List.append_nil]; exact S4) (RF.refl _ _ _ _ _ _) h6 (if_neg (by omega)) _ (fun _ z => z) (fun _ _ z => z)
          · rw [e44] at hlt
            have hlt2 : l.length + 1 < most := Nat.lt_of_not_le fun z => hlt ((oN_le (by omega) (by omega)).mpr z)
            rw [S4.cur.2.1]
            refine rs_breaks (r := 4) (by omega) (by omega) (by decide) S4 (fun τ5 S5 G5 => ?_)
            rw [List.append_assoc] at S5
            exact gow τ5 [(p2, 4)] S5 G5 h6 (if_pos ⟨by omega, hlt2⟩) _ (fun _ z => z) (fun _ _ z => z)
        -- where it goes
        have put : ∀ y, y = 5 + l.length → y ≤ 7 → B_X23_arguments_74 Z (d + 1) (τ2.wr v y r) v (Int32.ofNat most) K := by
          intro y hy hy7
          obtain ⟨S3, G3⟩ := S2.nwr (k := y) (x := r) hv2
          have Tr : TrN (τ2.wr v y r) (Rg lst2 (i + 1) m2) x r := (T2.fr S2 G3 (fun j j1 j2 j3 => by omega)).wk (by omega) (Nat.le_refl _)
          have old : AgT τ2 lst2 i m2 v l := A2.wk hm2
          have tr5 := old.1.fr S2 G3 (fun j j1 j2 j3 => by omega)
          have tr6 := old.2.1.fr S2 G3 (fun j j1 j2 j3 => by omega)
          have tr7 := old.2.2.fr S2 G3 (fun j j1 j2 j3 => by omega)
          refine go74 _ S3 (H2.tr G3 (fun j hj => Or.inl hj) (Nat.le_refl _)) ei ⟨?_, ?_, ?_⟩
          · by_cases q5 : l.length = 0
            · have : y = 5 := by omega
              subst this
              have e := gD_len l x
              rw [q5] at e
              rw [wr_at, e]
              exact Tr
            · rw [wr_ne (by omega), gD_app (by omega)]
              exact tr5
          · by_cases q5 : l.length = 1
            · have : y = 6 := by omega
              subst this
              have e := gD_len l x
              rw [q5] at e
              rw [wr_at, e]
              exact Tr
            · rw [wr_ne (by omega), gD_app (by omega)]
              exact tr6
          · by_cases q5 : l.length = 2
            · have : y = 7 := by omega
              subst this
              have e := gD_len l x
              rw [q5] at e
              rw [wr_at, e]
              exact Tr
            · rw [wr_ne (by omega), gD_app (by omega)]
              exact tr7
        have hs2 := S2.ls.2.2.2.1 v (List.mem_of_getElem? hv2)
        refine ⟨hs2, ?_⟩
        rw [e4]
        refine ⟨fun n0 => ⟨fun n1 => ⟨fun n2 => ?_, fun z => ?_⟩, fun z => ?_⟩, fun z => ?_⟩
        · have l0 : l.length ≠ 0 := fun z => n0 (by rw [z]; rfl)
          have l1 : l.length ≠ 1 := fun z => n1 (by rw [z]; rfl)
          have l2 : l.length ≠ 2 := fun z => n2 (by rw [z]; rfl)
          have old : AgT τ2 lst2 i m2 v l := A2.wk hm2
          refine go74 τ2 S2 H2 ei ⟨?_, ?_, ?_⟩
          · rw [gD_app (by omega)]
            exact old.1
          · rw [gD_app (by omega)]
            exact old.2.1
          · rw [gD_app (by omega)]
            exact old.2.2
        · have := (oN_eq (b := 2) (by omega) (by omega)).mp z
          exact put 7 (by omega) (by omega)
        · have := (oN_eq (b := 1) (by omega) (by omega)).mp z
          exact put 6 (by omega) (by omega)
        · have := (oN_eq (b := 0) (by omega) (by omega)).mp z
          exact put 5 (by omega) (by omega)
      · have epA : pAr t n f most (vsN t vs) (k + 1) p c es l = .inl q := by
          rw [pAr, hf]
        exact h0 q epA τ2 a (w.tr (m0 := i) G1 (fun _ z => z.elim) (by omega) (Nat.le_refl _))
    have hs := S.ls.2.2.2.1 v (List.mem_of_getElem? hv)
    refine S_X23_arguments_0 S.fx (rs_next hZ (by omega) S hp (fun τ1 S1 G1 => ⟨fun hle => ?_, fun hgt => ⟨v, rfl, ?_⟩⟩))
    · have hm0 : most = 0 := by
        have := (oN_le (b := 0) (by omega) (by omega)).mp hle
        omega
      refine go25 τ1 ?_ G1
      rw [if_neg (by omega), List.append_nil]
      exact S1
    · have hm0 : 0 < most := Nat.pos_of_ne_zero fun z => hgt (by rw [z]; exact Int32.le_refl _)
      obtain ⟨v1, v2, v3, v4⟩ := nd_keep S G1 hv (fun z => z)
      have e4 : τ1.i v 4 = Int32.ofNat l.length := by rw [v2, h4]
      refine ⟨v1, ?_⟩
      rw [e4]
      refine ⟨fun ne => ?_, fun eq => ?_⟩
      · refine go25 τ1 ?_ G1
        rw [if_neg (fun z => ne (by rw [z.2])), List.append_nil]
        exact S1
      · have := (oN_eq (by omega) (by omega)).mp eq
        rw [S1.cur.2.1]
        refine rs_breaks (r := 4) (by omega) (by omega) (by decide) S1 (fun τ5 S5 G5 => go25 τ5 ?_ (G1.tr G5 (fun _ z => z) (Nat.le_refl _)))
        rw [if_pos ⟨hm0, this⟩, ← List.append_assoc]
        exact S5
end ARG2

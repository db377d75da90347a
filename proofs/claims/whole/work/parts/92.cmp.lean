/-! THE REFERENCE'S READER: compared() -/
section CMP
variable {Z : zT} {d : Nat} {t : Nat → Int32} {n N : Nat} {env : Env} {B : Int32 × Int32} {o : Nat} {sm : Pf}
theorem fol_co (hZ : ZK Z) (hd : 19 ≤ d) (Hs : Fol t n N env B sm o (fun σ K => B_X23_chain_0 Z d σ 1 K)) : Fol t n N env B (pCo t n env sm) o (B_X23_compared_0 Z (d + 1)) := by
  intro σ p c vs es m lst cap u K S hu h1 h0
  refine S_X23_compared_0 S.fx (Hs σ p c vs es m lst cap u _ S hu (fun p1 c1 es1 x hf τ1 m1 lst1 cap1 r1 S1 G1 hm1 hp1 T1 hr1 => Or.inl ⟨r1, rfl, ?_⟩) (fun q hf τ a w => Or.inr ⟨_, rfl, h0 q (by unfold pCo; rw [hf]; rfl) τ a w⟩))
  have epC : pCo t n env sm (vsN t vs) p c = if tyS t n p1 = 15 ∨ tyS t n p1 = 17 ∨ tyS t n p1 = 16 then
    bnd (sm (vsN t vs) (nxS t n p1) (c1 + 1)) fun p2 c2 es2 y => .inr (p2, c2, es1 ++ cnE c1 p1 ++ es2, aN 8 (tyS t n p1) 0 x y .nil)
  else if tyS t n p1 = 33 then
    (if tyS t n (nxS t n p1) = 2 then .inr (nxS t n (nxS t n p1), c1 + 1, es1 ++ cnE c1 p1 ++ (if env.1 (nmS t n (nxS t n p1)) = none then [(nxS t n p1, 3)] else []), aN 9 (idx (env.1 (nmS t n (nxS t n p1)))) 0 x .nil .nil) else .inl (nxS t n p1))
  else .inr (p1, c1, es1, x) := by
    unfold pCo
    rw [hf]
    rfl
  have hpn := S1.pn
  obtain ⟨b1, b2, b3, b4, b5⟩ := S1.bd
  have cmp : tyS t n p1 = 15 ∨ tyS t n p1 = 17 ∨ tyS t n p1 = 16 → B_X23_compared_35 Z (d + 1) τ1 r1 K := by
    intro hty
    rw [if_pos hty] at epC
    have hp : p1 < n := ty_pos (t := t) (by omega)
    have hg := nxS_gt (t := t) hp
    refine S_X23_compared_35 S1.fx ?_
    rw [S1.cur.2.1]
    refine rs_counted (by omega) (by omega) S1 (fun τ2 S2 G2 => ⟨N, S2.md, S2.n22, ?_⟩)
    refine rs_get (by omega) S2 (by omega) (fun τ3 lst3 cap3 v S3 G3 hv hN => Or.inl ⟨Rf.ptr v, rfl, v, rfl, S3.ls.2.2.2.1 v (List.mem_of_getElem? hv), ?_⟩)
    obtain ⟨q0, q1, q2, q3, q4, q5, q6, q7, q8, q9, q10, q11⟩ := hN
    have hval : τ3.i 0 19 = chV (tyS t n p1) := by
      rcases hty with z | z | z
      · exact rs_val (x := 60) S3 (by decide) z
      · exact rs_val (x := 316) S3 (by decide) z
      · exact rs_val (x := 317) S3 (by decide) z
    rw [hval]
    obtain ⟨S4, G4⟩ := S3.nwi (k := 3) (x := chV (tyS t n p1)) hv
    refine rs_next hZ (by omega) S4 hp (fun τ5 S5 G5 => ⟨S5.ls.2.2.2.1 v (List.mem_of_getElem? hv), ?_⟩)
    obtain ⟨S6, G6⟩ := S5.nwr (k := 5) (x := r1) hv
    obtain ⟨y1, y2, y3, y4⟩ := nd_keep S4 G5 hv (fun z => z)
    have G16 : RF N vs.length τ1 (τ5.wr v 5 r1) lst1 cap1 lst3 cap3 (fun i => i = m1) := (((G2.wk (W := fun i => i = m1) (fun _ z => z.elim) (Nat.le_refl _)).tr G3 (fun _ z => z) (Nat.le_refl _)).tr G4 (fun _ z => z) (Nat.le_refl _)).tr G5 (fun _ z => z.elim) (Nat.le_refl _) |>.tr G6 (fun _ z => z) (Nat.le_refl _)
    have H6 := G1.tr G16 (fun j hj => by omega) (Nat.le_refl _)
    rw [show u + 1 - 2 = u - 1 from by omega] at S6
    refine Hs _ _ _ vs _ (m1 + 1) lst3 cap3 (u - 1) _ S6 (by omega) (fun p7 c7 es7 y hf7 τ7 m7 lst7 cap7 r7 S7 G7 hm7 hp7 T7 hr7 => Or.inl ⟨r7, rfl, ?_⟩) (fun q hf7 τ7 a w => Or.inr ⟨_, rfl, h0 q (by rw [epC, hf7]; rfl) τ7 a (w.tr (m0 := m) H6 (fun _ z => z) (by omega) (Nat.le_refl _))⟩)
    obtain ⟨z1, z2, z3, z4⟩ := nd_keep S6 G7 hv (by omega)
    have hv7 := G7.pre _ _ hv
    obtain ⟨S8, G8⟩ := S7.nwr (k := 6) (x := r7) hv7
    refine ⟨z1, ?_⟩
    rw [List.append_assoc, List.append_assoc] at S8
    refine h1 p7 c7 (es1 ++ cnE c1 p1 ++ es7) _ (by rw [epC, hf7]; rfl) (τ7.wr v 6 r7) m7 lst7 cap7 (Rf.ptr v) (by rw [List.append_assoc]; exact S8.wk (by omega) (by omega)) ((H6.tr G7 (fun j hj => by omega) (Nat.le_refl _)).tr G8 (fun j hj => by omega) (Nat.le_refl _)) (by omega) (by omega) ?_ (by intro z; cases z)
    rw [TrN_aN]
    refine ⟨v, rfl, ⟨m1, by omega, by omega, hv7⟩, z1, ⟨fun _ => ?_, fun z => by omega, fun z => by omega, fun _ => ?_, fun z => by omega, fun z => by omega⟩, ?_, ?_, ?_⟩
    · show τ7.i v 0 = _
      rw [z2]
      show τ5.i v 0 = _
      rw [y2, wi_ne (by omega)]
      exact q0
    · show τ7.i v 3 = _
      rw [z2]
      show τ5.i v 3 = _
      rw [y2, wi_at]
      rfl
    · rw [wr_ne (by omega), z4, wr_at]
      exact (((T1.fr S1 G16 (fun i i1 i2 i3 => by omega)).fr S6 G7 (fun i i1 i2 => by omega)).fr S7 G8 (fun i i1 i2 i3 => by omega)).wk (Nat.le_refl _) (by omega)
    · rw [if_neg (by omega), wr_at]
      exact (T7.fr S7 G8 (fun i i1 i2 i3 => by omega)).wk (by omega) (Nat.le_refl _)
    · rw [wr_ne (by omega), z4, wr_ne (by omega), y4]
      exact q7
  refine rs_is (y := 15) (by decide) (by omega) S1 (fun y1 => ⟨fun _ => cmp (Or.inl y1), fun z => absurd z (by decide)⟩) (fun n15 => ⟨fun z => absurd rfl z, fun _ => ?_⟩)
  refine rs_is (y := 17) (by decide) (by omega) S1 (fun y1 => ⟨fun _ => cmp (Or.inr (Or.inl y1)), fun z => absurd z (by decide)⟩) (fun n17 => ⟨fun z => absurd rfl z, fun _ => ?_⟩)
  refine rs_is (y := 16) (by decide) (by omega) S1 (fun y1 => ⟨fun z => absurd z (by decide), fun _ => cmp (Or.inr (Or.inr y1))⟩) (fun n16 => ⟨fun _ => ?_, fun z => absurd rfl z⟩)
  rw [if_neg (by omega)] at epC
  refine rs_isw (y := 33) (by decide) hZ (by omega) S1 (fun h33 => ⟨fun _ => ?_, fun z => absurd z (by decide)⟩) (fun n33 => ⟨fun z => absurd rfl z, fun _ => ?_⟩)
  · rw [if_pos h33] at epC
    have hp : p1 < n := ty_pos (t := t) (by omega)
    have hg := nxS_gt (t := t) hp
    have hnx := nxS_le t (n := n) (p := p1) (by omega)
    rw [S1.cur.2.1]
    refine rs_counted (by omega) (by omega) S1 (fun τ2 S2 G2 => rs_next hZ (by omega) S2 hp (fun τ3 S3 G3 => ⟨N, S3.md, S3.n22, ?_⟩))
    refine rs_get (by omega) S3 (by omega) (fun τ4 lst4 cap4 v S4 G4 hv hN => Or.inl ⟨Rf.ptr v, rfl, v, rfl, S4.ls.2.2.2.1 v (List.mem_of_getElem? hv), ?_⟩)
    obtain ⟨q0, q1, q2, q3, q4, q5, q6, q7, q8, q9, q10, q11⟩ := hN
    obtain ⟨S5, G5⟩ := S4.nwr (k := 5) (x := r1) hv
    have G15 : RF N vs.length τ1 (τ4.wr v 5 r1) lst1 cap1 lst4 cap4 (fun i => i = m1) := (((G2.wk (W := fun i => i = m1) (fun _ z => z.elim) (Nat.le_refl _)).tr G3 (fun _ z => z.elim) (Nat.le_refl _)).tr G4 (fun _ z => z) (Nat.le_refl _)).tr G5 (fun _ z => z) (Nat.le_refl _)
    have H5 := G1.tr G15 (fun j hj => by omega) (Nat.le_refl _)
    refine rs_name hZ (by omega) S5 (fun h2 hq hl τ6 S6 G6 => ?_) (fun n2 τ6 a w => h0 _ (by rw [epC, if_neg n2]) τ6 a (w.tr (m0 := m) H5 (fun _ z => z) (by omega) (Nat.le_refl _)))
    rw [if_pos h2] at epC
    have hg2 := nxS_gt (t := t) (n := n) (p := nxS t n p1) (ty_pos (t := t) (by omega))
    refine rs_kind (by omega) S6 hq hl ⟨S6.ls.2.2.2.1 v (List.mem_of_getElem? hv), ?_⟩
    have enm : txN t (nxS t n p1) (lnS t n (nxS t n p1)) = nmS t n (nxS t n p1) := rfl
    rw [enm, wi_at]
    obtain ⟨S7, G7⟩ := S6.nwi (k := 1) (x := Int32.ofInt (idx (env.1 (nmS t n (nxS t n p1))))) hv
    obtain ⟨y1, y2, y3, y4⟩ := nd_keep S5 G6 hv (fun z => z)
    have fin : ∀ (τ : Sg) (es8 : Evs), es8 = (if env.1 (nmS t n (nxS t n p1)) = none then [(nxS t n p1, 3)] else []) → RS t n N env (B.1, B.2, Rf.ptr N) τ (nxS t n (nxS t n p1)) (c1 + 1) o vs (es ++ (es1 ++ cnE c1 p1 ++ es8)) (m1 + 1) lst4 cap4 (u - 2 + 1 - 2) → RF N vs.length (τ6.wi v 1 (Int32.ofInt (idx (env.1 (nmS t n (nxS t n p1)))))) τ lst4 cap4 lst4 cap4 (fun _ => False) → K (.inl (some (.ref v))) τ := by
      intro τ es8 he S8 G8
      rw [← he] at epC
      obtain ⟨z1, z2, z3, z4⟩ := nd_keep S7 G8 hv (fun z => z)
      refine h1 _ _ _ _ epC τ (m1 + 1) lst4 cap4 (Rf.ptr v) (S8.wk (by omega) (by omega)) (((H5.tr G6 (fun _ z => z.elim) (Nat.le_refl _)).tr G7 (fun j hj => by omega) (Nat.le_refl _)).tr G8 (fun _ z => z.elim) (Nat.le_refl _)) (by omega) (by omega) ?_ (by intro z; cases z)
      rw [TrN_aN]
      refine ⟨v, rfl, ⟨m1, by omega, by omega, hv⟩, z1, ⟨fun _ => ?_, fun z => by omega, fun _ => ?_, fun z => by omega, fun z => by omega, fun z => by omega⟩, ?_, ?_, ?_⟩
      · rw [z2, wi_ne (by omega), y2]
        exact q0
      · rw [z2, wi_at]
      · rw [z4]
        show TrN τ _ x (τ6.r v 5)
        rw [y4, wr_at]
        exact ((((T1.fr S1 G15 (fun i i1 i2 i3 => by omega)).fr S5 G6 (fun _ _ _ z => z)).fr S6 G7 (fun i i1 i2 i3 => by omega)).fr S7 G8 (fun _ _ _ z => z)).wk (Nat.le_refl _) (by omega)
      · rw [if_neg (by omega), z4]
        show τ6.r v 6 = _
        rw [y4, wr_ne (by omega)]
        exact q6
      · rw [z4]
        show τ6.r v 7 = _
        rw [y4, wr_ne (by omega)]
        exact q7
    have eas : ∀ x : Evs, es ++ es1 ++ cnE c1 p1 ++ x = es ++ (es1 ++ cnE c1 p1 ++ x) := fun x => by simp only [List.append_assoc]
    have enk : ∀ k, env.1 (nmS t n (nxS t n p1)) = some k → k < 24 := by
      intro k hk
      obtain ⟨ks, cs, ls, ⟨k1, k2, k3, k4, k5⟩, -⟩ := S6.en
      rw [k4] at hk
      have := fi_lt hk
      omega
    cases hk : env.1 (nmS t n (nxS t n p1)) with
    | some k =>
      have k24 := enk k hk
      rw [hk] at fin S7
      refine ⟨fun _ => fin _ [] (by rw [if_neg (by intro z; cases z)]) ?_ (RF.refl _ _ _ _ _ _), fun z => absurd ((oN_le (a := 0) (by omega) (by omega)).mpr (Nat.zero_le k)) z⟩
      rw [← eas, List.append_nil]
      exact S7
    | none =>
      rw [hk] at fin S7
      refine ⟨fun z => absurd z (by decide), fun _ => ?_⟩
      rw [S4.cur.2.1]
      refine rs_breaks (r := 3) (by omega) (by omega) (by decide) S7 (fun τ8 S8 G8 => fin τ8 [(nxS t n p1, 3)] (by rw [if_pos rfl]) ?_ G8)
      rw [← eas]
      exact S8
  · rw [if_neg n33] at epC
    exact h1 _ _ _ _ epC τ1 m1 lst1 cap1 r1 S1 G1 hm1 hp1 T1 hr1
end CMP

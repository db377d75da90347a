/-! THE REFERENCE'S READER: chain() -/
/-- links in a row, the first at place a of the list, the last at place iz (its link is left open) -/
def LkH (σ : Sg) (lst : List Nat) : List (Nat × Ast) → Nat → Nat → Rf → Nat → Prop
  | [], _, _, _, _ => False
  | (s, y) :: l, a, e, r, iz => ∃ x, lst[a]? = some x ∧ r = Rf.ptr x ∧ σ.sh[x]? = some (Sh.obj 21) ∧ σ.i x 3 = chV s ∧ σ.r x 7 = Rf.nul ∧ 9 ≤ s ∧ ((l = [] ∧ iz = a ∧ a < e ∧ TrN σ (Rg lst (a + 1) e) y (σ.r x 5)) ∨ (l ≠ [] ∧ ∃ a2, a < a2 ∧ TrN σ (Rg lst (a + 1) a2) y (σ.r x 5) ∧ LkH σ lst l a2 e (σ.r x 8) iz))
theorem LkH.lt {σ : Sg} {lst : List Nat} {e iz : Nat} : ∀ (l : List (Nat × Ast)) (a : Nat) (r : Rf), LkH σ lst l a e r iz → a ≤ iz ∧ iz < e
  | [], _, _, h => h.elim
  | (s, y) :: l, a, r, h => by
    obtain ⟨x, h1, h2, h3, h4, h5, h6, h7⟩ := h
    rcases h7 with ⟨_, h8, h9, _⟩ | ⟨_, a2, h8, _, h9⟩
    · omega
    · have := LkH.lt l a2 _ h9
      omega
theorem LkH.mono {σ τ : Sg} {lst lst' : List Nat} {e iz : Nat} : ∀ (l : List (Nat × Ast)) (a : Nat) (r : Rf), LkH σ lst l a e r iz → (∀ i x : Nat, a ≤ i → i < e → lst[i]? = some x → lst'[i]? = some x ∧ (σ.sh[x]? = some (Sh.obj 21) → τ.sh[x]? = some (Sh.obj 21)) ∧ τ.i x = σ.i x ∧ τ.l x = σ.l x ∧ ∀ k, ¬ (i = iz ∧ k = 8) → τ.r x k = σ.r x k) → LkH τ lst' l a e r iz
  | [], _, _, h, _ => h.elim
  | (s, y) :: l, a, r, h, hm => by
    have hlt := LkH.lt _ _ _ h
    obtain ⟨x, h1, h2, h3, h4, h5, h6, h7⟩ := h
    obtain ⟨g1, g2, g3, g4, g5⟩ := hm a x (Nat.le_refl _) (by omega) h1
    have tr : ∀ b, b ≤ e → (∀ i, a + 1 ≤ i → i < b → i ≠ iz) → TrN σ (Rg lst (a + 1) b) y (σ.r x 5) → TrN τ (Rg lst' (a + 1) b) y (τ.r x 5) := by
      intro b hb hi T
      rw [g5 5 (by omega)]
      refine T.mono (fun z hz hs => ?_)
      obtain ⟨i, i1, i2, i3⟩ := hz
      obtain ⟨k1, k2, k3, k4, k5⟩ := hm i z (by omega) (by omega) i3
      exact ⟨⟨i, i1, i2, k1⟩, k2 hs, k3, k4, funext fun k => k5 k (fun q => hi i i1 i2 q.1)⟩
    refine ⟨x, g1, h2, g2 h3, by rw [g3]; exact h4, by rw [g5 7 (by omega)]; exact h5, h6, ?_⟩
    rcases h7 with ⟨h7, h8, h9, h10⟩ | ⟨h7, a2, h8, h9, h10⟩
    · exact Or.inl ⟨h7, h8, h9, tr e (Nat.le_refl _) (fun i i1 i2 => by omega) h10⟩
    · have hlt2 := LkH.lt _ _ _ h10
      refine Or.inr ⟨h7, a2, h8, tr a2 (by omega) (fun i i1 i2 => by omega) h9, ?_⟩
      rw [g5 8 (by omega)]
      exact LkH.mono l a2 _ h10 (fun i z i1 i2 => hm i z (by omega) i2)
theorem LkH.snoc {σ : Sg} {lst : List Nat} {e e2 iz s x z : Nat} {y : Ast} (hz : lst[iz]? = some z) (hl : σ.r z 8 = Rf.ptr x) (hx : lst[e]? = some x) (hs : σ.sh[x]? = some (Sh.obj 21)) (h3 : σ.i x 3 = chV s) (h7 : σ.r x 7 = Rf.nul) (h9 : 9 ≤ s) (he : e < e2) (T : TrN σ (Rg lst (e + 1) e2) y (σ.r x 5)) : ∀ (l : List (Nat × Ast)) (a : Nat) (r : Rf), LkH σ lst l a e r iz → LkH σ lst (l ++ [(s, y)]) a e2 r e
  | [], _, _, h => h.elim
  | (s', y') :: l, a, r, h => by
    obtain ⟨x', g1, g2, g3, g4, g5, g6, g7⟩ := h
    refine ⟨x', g1, g2, g3, g4, g5, g6, Or.inr ⟨List.append_ne_nil_of_right_ne_nil _ (List.cons_ne_nil _ _), ?_⟩⟩
    rcases g7 with ⟨g7, g8, g9, g10⟩ | ⟨g7, a2, g8, g9, g10⟩
    · subst g7
      subst g8
      rw [g1] at hz
      cases hz
      refine ⟨e, g9, g10, ?_⟩
      rw [hl]
      exact ⟨x, hx, rfl, hs, h3, h7, h9, Or.inl ⟨rfl, rfl, he, T⟩⟩
    · exact ⟨a2, g8, g9, LkH.snoc hz hl hx hs h3 h7 h9 he T l a2 _ g10⟩
theorem LkH.tr {σ : Sg} {lst : List Nat} {e iz z : Nat} (hz : lst[iz]? = some z) (hl : σ.r z 8 = Rf.nul) : ∀ (l : List (Nat × Ast)) (a : Nat) (r : Rf), LkH σ lst l a e r iz → TrN σ (Rg lst a e) (lkA l) r
  | [], _, _, h => h.elim
  | (s, y) :: l, a, r, h => by
    have hlt := LkH.lt _ _ _ h
    obtain ⟨x, g1, g2, g3, g4, g5, g6, g7⟩ := h
    show TrN σ (Rg lst a e) (aN (30 + s) 0 0 y (lkA l) .nil) r
    rw [TrN_aN]
    refine ⟨x, g2, ⟨a, Nat.le_refl _, by omega, g1⟩, g3, ⟨fun q => by omega, fun q => by omega, fun q => by omega, fun q => by omega, fun q => by omega, fun _ => ?_⟩, ?_, ?_, g5⟩
    · rw [Nat.add_sub_cancel_left]
      exact g4
    · rcases g7 with ⟨g7, g8, g9, g10⟩ | ⟨g7, a2, g8, g9, g10⟩
      · exact g10.wk (by omega) (Nat.le_refl _)
      · have := LkH.lt _ _ _ g10
        exact g9.wk (by omega) (by omega)
    · rw [if_pos (by omega)]
      rcases g7 with ⟨g7, g8, g9, g10⟩ | ⟨g7, a2, g8, g9, g10⟩
      · subst g7
        subst g8
        rw [g1] at hz
        cases hz
        exact hl
      · exact (LkH.tr hz hl l a2 _ g10).wk (by omega) (Nat.le_refl _)
/-- a chain that is being read -/
def ChS (σ : Sg) (lst : List Nat) (m0 m : Nat) (x0 : Ast) (l : List (Nat × Ast)) (l2 l3 l4 : Rf) : Prop := l2 ≠ Rf.nul ∧ ((l = [] ∧ l3 = Rf.nul ∧ l4 = Rf.nul ∧ TrN σ (Rg lst m0 m) x0 l2) ∨ (l ≠ [] ∧ ∃ jb b iz z, lst[jb]? = some b ∧ l3 = Rf.ptr b ∧ m0 ≤ jb ∧ jb < m ∧ TrN σ (Rg lst m0 jb) x0 l2 ∧ lst[iz]? = some z ∧ l4 = Rf.ptr z ∧ σ.sh[b]? = some (Sh.obj 21) ∧ σ.i b 0 = 10 ∧ σ.i b 4 = Int32.ofNat l.length ∧ σ.r b 5 = l2 ∧ σ.r b 7 = Rf.nul ∧ LkH σ lst l (jb + 1) m (σ.r b 8) iz ∧ σ.r z 8 = Rf.nul))
theorem ChS.tree {σ : Sg} {lst : List Nat} {m0 m : Nat} {x0 : Ast} {l : List (Nat × Ast)} {l2 l3 l4 : Rf} (h : ChS σ lst m0 m x0 l l2 l3 l4) : (l3 ≠ Rf.nul → TrN σ (Rg lst m0 m) (mkCh x0 l) l3) ∧ (l3 = Rf.nul → TrN σ (Rg lst m0 m) (mkCh x0 l) l2) := by
  obtain ⟨h0, h⟩ := h
  unfold mkCh
  rcases h with ⟨h1, h2, h3, h4⟩ | ⟨h1, jb, b, iz, z, g1, g2, g3, g4, g5, g6, g7, g8, g9, g10, g11, g12, g13, g14⟩
  · rw [if_pos h1]
    exact ⟨fun q => absurd h2 q, fun _ => h4⟩
  · rw [if_neg h1]
    refine ⟨fun _ => ?_, fun q => by rw [g2] at q; cases q⟩
    rw [TrN_aN]
    refine ⟨b, g2, ⟨jb, g3, g4, g1⟩, g8, ⟨fun _ => g9, fun q => by omega, fun q => by omega, fun q => by omega, fun _ => g10, fun q => by omega⟩, ?_, ?_, g12⟩
    · rw [g11]
      exact g5.wk (Nat.le_refl _) (by omega)
    · rw [if_pos (by omega)]
      exact (LkH.tr g6 g14 l _ _ g13).wk (by omega) (Nat.le_refl _)
section CHAIN
variable {Z : zT} {d : Nat} {t : Nat → Int32} {n N : Nat} {env : Env} {B : Int32 × Int32} {o : Nat} {sub : Pf}
theorem ChS.fr {nv : Nat} {σ τ : Sg} {p c : Nat} {vs : List (Nat × Nat)} {es : Evs} {m0 m m' : Nat} {lst lst' : List Nat} {cap cap' u : Nat} {W : Nat → Prop} {x0 : Ast} {l : List (Nat × Ast)} {l2 l3 l4 : Rf} (h : ChS σ lst m0 m x0 l l2 l3 l4) (S : RS t n N env (B.1, B.2, Rf.ptr N) σ p c o vs es m' lst cap u) (G : RF N nv σ τ lst cap lst' cap' W) (hW : ∀ i, m0 ≤ i → i < m → ¬ W i) : ChS τ lst' m0 m x0 l l2 l3 l4 := by
  obtain ⟨h0, h⟩ := h
  refine ⟨h0, ?_⟩
  rcases h with ⟨h1, h2, h3, h4⟩ | ⟨h1, jb, b, iz, z, g1, g2, g3, g4, g5, g6, g7, g8, g9, g10, g11, g12, g13, g14⟩
  · exact Or.inl ⟨h1, h2, h3, h4.fr S G hW⟩
  · have hlt := LkH.lt _ _ _ g13
    obtain ⟨y1, y2, y3, y4⟩ := nd_keep S G g1 (hW jb g3 g4)
    obtain ⟨z1, z2, z3, z4⟩ := nd_keep S G g6 (hW iz (by omega) hlt.2)
    refine Or.inr ⟨h1, jb, b, iz, z, G.pre _ _ g1, g2, g3, g4, g5.fr S G (fun i i1 i2 => hW i i1 (by omega)), G.pre _ _ g6, g7, y1, by rw [y2]; exact g9, by rw [y2]; exact g10, by rw [y4]; exact g11, by rw [y4]; exact g12, ?_, by rw [z4]; exact g14⟩
    rw [y4]
    refine LkH.mono l _ _ g13 (fun i x i1 i2 i3 => ?_)
    obtain ⟨w1, w2, w3, w4⟩ := nd_keep S G i3 (hW i (by omega) i2)
    exact ⟨G.pre _ _ i3, fun _ => w1, w2, w3, fun k _ => by rw [w4]⟩
theorem rs_val {B : Int32 × Int32 × Rf} {σ : Sg} {p c : Nat} {vs : List (Nat × Nat)} {es : Evs} {m : Nat} {lst : List Nat} {cap u : Nat} {x : Int32} {y : Nat} (S : RS t n N env B σ p c o vs es m lst cap u) (hk : (x, y) ∈ mkL2) (hy : tyS t n p = y) : σ.i 0 19 = chV (tyS t n p) := by
  have := ((ty_mk hk S.cur).mpr hy).2
  rw [this, hy]
  exact (chV_c _ hk).symm
theorem fol_chain (hZ : ZK Z) (hd : 19 ≤ d) {l1 : Int32} {s1 s2 : Nat} {c1 c2 : Int32} (hk1 : (c1, s1) ∈ mkL2) (hk2 : (c2, s2) ∈ mkL2) (hs1 : 9 ≤ s1) (hs2 : 9 ≤ s2) {sb : Sg → kS → Prop} (hsub : ∀ σ K', sb σ K' → (l1 = 0 → B_X23_p_0 Z d σ K') ∧ (¬ l1 = 0 → B_X23_chain_0 Z d σ 0 K'))
    (hops : ∀ (σ : Sg) (l2 l3 l4 : Rf) (K : kS), FX ΦR σ.sh σ.r → B_X23_is_0 Z d σ c1 (yI K fun v τ => (¬ v = 0 → B_X23_chain_65 Z (d + 1) τ l1 l2 l3 l4 K) ∧ (v = 0 → B_X23_is_0 Z d τ c2 (yI K fun v' τ' => (v' = 0 → (¬ l3 = Rf.nul → K (.inl (some (rv l3))) τ') ∧ (l3 = Rf.nul → K (.inl (some (rv l2))) τ')) ∧ (¬ v' = 0 → B_X23_chain_65 Z (d + 1) τ' l1 l2 l3 l4 K)))) → B_X23_chain_22 Z (d + 1) σ l1 l2 l3 l4 K)
    (Hs : Fol t n N env B sub o sb) : Fol t n N env B (pCh t n sub s1 s2) o (fun σ K => B_X23_chain_0 Z (d + 1) σ l1 K) := by
  intro σ p c vs es m lst cap u K S hu h1 h0
  refine S_X23_chain_0 S.fx (hsub _ _ (Hs σ p c vs es m lst cap u _ S hu (fun p1 c1' es1 x0 hf τ1 m1 lst1 cap1 r1 S1 G1 hm1 hp1 T1 hr1 => Or.inl ⟨r1, rfl, ?_⟩) (fun q hf τ a w => Or.inr ⟨_, rfl, h0 q (by unfold pCh; rw [hf]; rfl) τ a w⟩)))
  have epC : pCh t n sub s1 s2 (vsN t vs) p c = (match pLk t n sub s1 s2 (vsN t vs) (n + 1 - p1) p1 c1' es1 [] with
    | .inl q => .inl q
    | .inr (p2, c2, es2, l) => .inr (p2, c2, es2, mkCh x0 l)) := by
    unfold pCh
    rw [hf]
    rfl
  have lp : ∀ (f : Nat) (τ : Sg) (p2 c2' : Nat) (es2 : Evs) (l : List (Nat × Ast)) (l2 l3 l4 : Rf) (m2 : Nat) (lst2 : List Nat) (cap2 : Nat), n - p2 < f → l.length + f ≤ 8300 → RS t n N env (B.1, B.2, Rf.ptr N) τ p2 c2' o vs (es ++ es2) m2 lst2 cap2 u → RF N vs.length σ τ lst cap lst2 cap2 (fun i => m ≤ i) → m ≤ m2 → p ≤ p2 → ChS τ lst2 m m2 x0 l l2 l3 l4 → pLk t n sub s1 s2 (vsN t vs) (n + 1 - p1) p1 c1' es1 [] = pLk t n sub s1 s2 (vsN t vs) f p2 c2' es2 l → B_X23_chain_22 Z (d + 1) τ l1 l2 l3 l4 K := by
    intro f
    induction f with
    | zero => intro τ p2 c2' es2 l l2 l3 l4 m2 lst2 cap2 h; omega
    | succ f ih =>
      intro τ p2 c2' es2 l l2 l3 l4 m2 lst2 cap2 hf2 hlf S2 G2 hm2 hp2 C2 heq
      have hpn := S2.pn
      -- an operator
      have op : tyS t n p2 = s1 ∨ tyS t n p2 = s2 → B_X23_chain_65 Z (d + 1) τ l1 l2 l3 l4 K := by
        intro hty
        have hty9 : 9 ≤ tyS t n p2 := by omega
        have hp : p2 < n := ty_pos (t := t) (by omega)
        have hg := nxS_gt (t := t) hp
        obtain ⟨b1, b2, b3, b4, b5⟩ := S2.bd
        have epL : pLk t n sub s1 s2 (vsN t vs) (f + 1) p2 c2' es2 l = (match sub (vsN t vs) (nxS t n p2) (c2' + 1) with
          | .inl q => .inl q
          | .inr (p', c', es', y) => pLk t n sub s1 s2 (vsN t vs) f p' c' (es2 ++ cnE c2' p2 ++ es') (l ++ [(tyS t n p2, y)])) := by
          rw [pLk, if_pos hty]
          rfl
        rw [epL] at heq
        -- behind the chain's own Node
        have go : ∀ (τ3 : Sg) (m3 : Nat) (lst3 : List Nat) (cap3 : Nat) (l3' : Rf) (jb b : Nat), RS t n N env (B.1, B.2, Rf.ptr N) τ3 p2 (c2' + 1) o vs (es ++ (es2 ++ cnE c2' p2)) m3 lst3 cap3 (u + 1) → RF N vs.length σ τ3 lst cap lst3 cap3 (fun i => m ≤ i) → m2 ≤ m3 → l3' = Rf.ptr b → lst3[jb]? = some b → m ≤ jb → jb < m3 → τ3.i b 0 = 10 → τ3.i b 4 = Int32.ofNat l.length → τ3.r b 5 = l2 → τ3.r b 7 = Rf.nul → l2 ≠ Rf.nul → TrN τ3 (Rg lst3 m jb) x0 l2 → ((l = [] ∧ l4 = Rf.nul ∧ m3 = jb + 1) ∨ (l ≠ [] ∧ ∃ iz z, lst3[iz]? = some z ∧ l4 = Rf.ptr z ∧ LkH τ3 lst3 l (jb + 1) m3 (τ3.r b 8) iz ∧ τ3.r z 8 = Rf.nul)) → B_X23_chain_92 Z (d + 1) τ3 l1 l2 l3' l4 K := by
          intro τ3 m3 lst3 cap3 l3' jb b S3 H3 hm3 hl3 hb hmb hb3 e0 e4 e5 e7 hn2 T3 hL
          refine S_X23_chain_92 S3.fx ⟨N, S3.md, S3.n22, ?_⟩
          refine rs_get (by omega) S3 (by omega) (fun τ4 lst4 cap4 y S4 G4 hy hN => Or.inl ⟨Rf.ptr y, rfl, y, rfl, S4.ls.2.2.2.1 y (List.mem_of_getElem? hy), ?_⟩)
          obtain ⟨q0, q1, q2, q3, q4, q5, q6, q7, q8, q9, q10, q11⟩ := hN
          have hval : τ4.i 0 19 = chV (tyS t n p2) := by
            rcases hty with z | z
            · exact rs_val S4 hk1 z
            · exact rs_val S4 hk2 z
          rw [hval]
          obtain ⟨S5, G5⟩ := S4.nwi (k := 3) (x := chV (tyS t n p2)) hy
          have H5 : RF N vs.length σ (τ4.wi y 3 (chV (tyS t n p2))) lst cap lst4 cap4 (fun i => m ≤ i) := (H3.tr G4 (fun j hj => by omega) (Nat.le_refl _)).tr G5 (fun j hj => by omega) (Nat.le_refl _)
          refine rs_next hZ (by omega) S5 hp (fun τ6 S6 G6 => ?_)
          have H6 := H5.tr G6 (fun _ z => z.elim) (Nat.le_refl _)
          have G36 : RF N vs.length τ3 τ6 lst3 cap3 lst4 cap4 (fun i => i = m3) := (G4.tr G5 (fun _ z => z) (Nat.le_refl _)).tr G6 (fun _ z => z.elim) (Nat.le_refl _)
          obtain ⟨y1, y2, y3, y4⟩ := nd_keep S5 G6 hy (fun z => z)
          rw [show u + 1 + 1 - 2 = u from by omega] at S6
          refine hsub _ _ (Hs τ6 _ _ vs _ (m3 + 1) lst4 cap4 u _ S6 hu (fun p7 c7 es7 y7 hf7 τ7 m7 lst7 cap7 r7 S7 G7 hm7 hp7 T7 hr7 => Or.inl ⟨r7, rfl, ?_⟩) (fun q hf7 τ7 a w => Or.inr ⟨_, rfl, ?_⟩))
          · rw [hf7] at heq
            have hy7 := G7.pre _ _ hy
            obtain ⟨z1, z2, z3, z4⟩ := nd_keep S6 G7 hy (by omega)
            have yi : ∀ k, τ7.i y k = if k = 3 then chV (tyS t n p2) else τ4.i y k := fun k => by
              rw [z2, y2]
              by_cases hk : k = 3
              · rw [if_pos hk, hk]
                exact wi_at _ _ _ _
              · rw [if_neg hk]
                exact wi_ne (by omega)
            have yr : ∀ k, τ7.r y k = τ4.r y k := fun k => by
              rw [z4, y4]
              rfl
            have G37 : RF N vs.length τ3 τ7 lst3 cap3 lst7 cap7 (fun i => m3 ≤ i) := (G36.wk (W := fun i => m3 ≤ i) (fun j hj => by omega) (Nat.le_refl _)).tr G7 (fun j hj => by omega) (Nat.le_refl _)
            have hb7 := G37.pre _ _ hb
            obtain ⟨b71, b72, b73, b74⟩ := nd_keep S3 G37 hb (by omega)
            have H7 := H6.tr G7 (fun j hj => by omega) (Nat.le_refl _)
            have T7' := T3.fr S3 G37 (fun i i1 i2 => by omega)
            have hbg := nd_ge S7.fx b71
            have hby : b ≠ y := fun z => by
              rw [z] at hb7
              obtain ⟨i1, i2⟩ := List.getElem?_eq_some_iff.mp hb7
              obtain ⟨j1, j2⟩ := List.getElem?_eq_some_iff.mp hy7
              have := (List.getElem_inj S7.ls.2.2.2.2.1).mp (i2.trans j2.symm)
              omega
            have hS7 := S7
            rw [List.append_assoc] at hS7
            -- y.a
            obtain ⟨S8, G8⟩ := S7.nwr (k := 5) (x := r7) hy7
            refine S_X23_chain_134 S7.fx ⟨z1, fun hl4 => ?_, fun hl4 => ?_⟩
            · rcases hL with ⟨_, hq, _⟩ | ⟨hl, iz, z, hz, hlz, hLk, hz8⟩
              · exact absurd hq hl4
              · have hlt := LkH.lt _ _ _ hLk
                have hz7 := G37.pre _ _ hz
                obtain ⟨w1, w2, w3, w4⟩ := nd_keep S3 G37 hz (by omega)
                refine ⟨z, hlz, w1, b, hl3, b71, ?_⟩
                obtain ⟨S9, G9⟩ := S8.nwr (k := 8) (x := Rf.ptr y) hz7
                have hzy : z ≠ y := fun q => by
                  rw [q] at hz7
                  obtain ⟨i1, i2⟩ := List.getElem?_eq_some_iff.mp hz7
                  obtain ⟨j1, j2⟩ := List.getElem?_eq_some_iff.mp hy7
                  have := (List.getElem_inj S7.ls.2.2.2.2.1).mp (i2.trans j2.symm)
                  omega
                have hzb : z ≠ b := fun q => by
                  rw [q] at hz7
                  obtain ⟨i1, i2⟩ := List.getElem?_eq_some_iff.mp hz7
                  obtain ⟨j1, j2⟩ := List.getElem?_eq_some_iff.mp hb7
                  have := (List.getElem_inj S7.ls.2.2.2.2.1).mp (i2.trans j2.symm)
                  omega
                have e4' : τ7.i b 4 + 1 = Int32.ofNat (l.length + 1) := by rw [b72, e4, oN_1]
                rw [e4']
                obtain ⟨S10, G10⟩ := S9.nwi (k := 4) (x := Int32.ofNat (l.length + 1)) hb7
                have hll : (l ++ [(tyS t n p2, y7)]).length = l.length + 1 := by
                  rw [List.length_append]
                  rfl
                have Gall : RF N vs.length τ7 (((τ7.wr y 5 r7).wr z 8 (Rf.ptr y)).wi b 4 (Int32.ofNat (l.length + 1))) lst7 cap7 lst7 cap7 (fun i => i = m3 ∨ i = iz ∨ i = jb) := ((G8.wk (W := fun i => i = m3 ∨ i = iz ∨ i = jb) (fun j hj => Or.inl hj) (Nat.le_refl _)).tr G9 (fun j hj => Or.inr (Or.inl hj)) (Nat.le_refl _)).tr G10 (fun j hj => Or.inr (Or.inr hj)) (Nat.le_refl _)
                rw [List.append_assoc] at S10
                refine ih _ p7 c7 _ (l ++ [(tyS t n p2, y7)]) l2 (Rf.ptr b) (Rf.ptr y) m7 lst7 cap7 (by omega) (by rw [hll]; omega) S10 (H7.tr Gall (fun j hj => by omega) (Nat.le_refl _)) (by omega) (by omega) ⟨hn2, Or.inr ⟨List.append_ne_nil_of_right_ne_nil _ (List.cons_ne_nil _ _), jb, b, m3, y, hb7, rfl, hmb, by omega, T7'.fr S7 Gall (fun i i1 i2 i3 => by omega), hy7, rfl, b71, ?_, ?_, ?_, ?_, ?_, ?_⟩⟩ heq
                · rw [wi_ne (by omega)]
                  show τ7.i b 0 = _
                  rw [b72]
                  exact e0
                · rw [hll]
                  exact wi_at _ _ _ _
                · show ((τ7.wr y 5 r7).wr z 8 (Rf.ptr y)).r b 5 = _
                  rw [wr_ne (by omega), wr_ne (by omega), b74]
                  exact e5
                · show ((τ7.wr y 5 r7).wr z 8 (Rf.ptr y)).r b 7 = _
                  rw [wr_ne (by omega), wr_ne (by omega), b74]
                  exact e7
                · have eb8 : (((τ7.wr y 5 r7).wr z 8 (Rf.ptr y)).wi b 4 (Int32.ofNat (l.length + 1))).r b 8 = τ3.r b 8 := by
                    show ((τ7.wr y 5 r7).wr z 8 (Rf.ptr y)).r b 8 = _
                    rw [wr_ne (fun q => hzb q.1.symm), wr_ne (by omega), b74]
                  rw [eb8]
                  refine LkH.snoc (σ := ((τ7.wr y 5 r7).wr z 8 (Rf.ptr y)).wi b 4 (Int32.ofNat (l.length + 1))) (iz := iz) (z := z) (e := m3) (e2 := m7) hz7 (wr_at (τ7.wr y 5 r7) z 8 (Rf.ptr y)) hy7 z1 ?_ ?_ hty9 (by omega) ?_ l _ _ (LkH.mono l _ _ hLk (fun i x i1 i2 i3 => ?_))
                  · rw [wi_ne (by omega)]
                    show τ7.i y 3 = _
                    rw [yi, if_pos rfl]
                  · show ((τ7.wr y 5 r7).wr z 8 (Rf.ptr y)).r y 7 = _
                    rw [wr_ne (by omega), wr_ne (by omega), yr]
                    exact q7
                  · have e55 : (((τ7.wr y 5 r7).wr z 8 (Rf.ptr y)).wi b 4 (Int32.ofNat (l.length + 1))).r y 5 = r7 := by
                      show ((τ7.wr y 5 r7).wr z 8 (Rf.ptr y)).r y 5 = _
                      rw [wr_ne (by omega), wr_at]
                    rw [e55]
                    exact T7.fr S7 Gall (fun i i1 i2 i3 => by omega)
                  · obtain ⟨k1, k2, k3, k4⟩ := nd_keep S3 G37 i3 (by omega)
                    have hxy : x ≠ y := fun q => by
                      have hx7 := G37.pre _ _ i3
                      rw [q] at hx7
                      obtain ⟨i1, i2⟩ := List.getElem?_eq_some_iff.mp hx7
                      obtain ⟨j1, j2⟩ := List.getElem?_eq_some_iff.mp hy7
                      have := (List.getElem_inj S7.ls.2.2.2.2.1).mp (i2.trans j2.symm)
                      omega
                    have hxb : x ≠ b := fun q => by
                      have hx7 := G37.pre _ _ i3
                      rw [q] at hx7
                      obtain ⟨i1, i2⟩ := List.getElem?_eq_some_iff.mp hx7
                      obtain ⟨j1, j2⟩ := List.getElem?_eq_some_iff.mp hb7
                      have := (List.getElem_inj S7.ls.2.2.2.2.1).mp (i2.trans j2.symm)
                      omega
                    refine ⟨G37.pre _ _ i3, fun _ => k1, ?_, k3, fun k hk => ?_⟩
                    · rw [wi_row hxb]
                      exact k2
                    · show ((τ7.wr y 5 r7).wr z 8 (Rf.ptr y)).r x k = _
                      have hk2 : ¬ (x = z ∧ k = 8) := fun q => hk ⟨?_, q.2⟩
                      · rw [wr_ne hk2, wr_ne (fun q => hxy q.1), k4]
                      · have hx7 := G37.pre _ _ i3
                        rw [q.1] at hx7
                        obtain ⟨i1, i2⟩ := List.getElem?_eq_some_iff.mp hx7
                        obtain ⟨j1, j2⟩ := List.getElem?_eq_some_iff.mp hz7
                        exact (List.getElem_inj S7.ls.2.2.2.2.1).mp (i2.trans j2.symm)
                · show ((τ7.wr y 5 r7).wr z 8 (Rf.ptr y)).r y 8 = _
                  rw [wr_ne (by omega), wr_ne (by omega), yr]
                  exact q8
            · rcases hL with ⟨hl, _, hm3b⟩ | ⟨hl, iz, z, hz, hlz, hLk, hz8⟩
              · subst hl
                refine ⟨b, hl3, b71, ?_⟩
                obtain ⟨S9, G9⟩ := S8.nwr (k := 8) (x := Rf.ptr y) hb7
                have e4' : τ7.i b 4 + 1 = Int32.ofNat 1 := by
                  rw [b72, e4]
                  rfl
                rw [e4']
                obtain ⟨S10, G10⟩ := S9.nwi (k := 4) (x := Int32.ofNat 1) hb7
                have Gall : RF N vs.length τ7 (((τ7.wr y 5 r7).wr b 8 (Rf.ptr y)).wi b 4 (Int32.ofNat 1)) lst7 cap7 lst7 cap7 (fun i => i = m3 ∨ i = jb) := ((G8.wk (W := fun i => i = m3 ∨ i = jb) (fun j hj => Or.inl hj) (Nat.le_refl _)).tr G9 (fun j hj => Or.inr hj) (Nat.le_refl _)).tr G10 (fun j hj => Or.inr hj) (Nat.le_refl _)
                rw [List.append_assoc] at S10
                refine ih _ p7 c7 _ [(tyS t n p2, y7)] l2 (Rf.ptr b) (Rf.ptr y) m7 lst7 cap7 (by omega) (by show 1 + f ≤ 8300; have : 0 + (f + 1) ≤ 8300 := hlf; omega) S10 (H7.tr Gall (fun j hj => by omega) (Nat.le_refl _)) (by omega) (by omega) ⟨hn2, Or.inr ⟨List.cons_ne_nil _ _, jb, b, m3, y, hb7, rfl, hmb, by omega, T7'.fr S7 Gall (fun i i1 i2 i3 => by omega), hy7, rfl, b71, ?_, wi_at _ _ _ _, ?_, ?_, ?_, ?_⟩⟩ heq
                · rw [wi_ne (by omega)]
                  show τ7.i b 0 = _
                  rw [b72]
                  exact e0
                · show ((τ7.wr y 5 r7).wr b 8 (Rf.ptr y)).r b 5 = _
                  rw [wr_ne (by omega), wr_ne (by omega), b74]
                  exact e5
                · show ((τ7.wr y 5 r7).wr b 8 (Rf.ptr y)).r b 7 = _
                  rw [wr_ne (by omega), wr_ne (by omega), b74]
                  exact e7
                · have eb8 : (((τ7.wr y 5 r7).wr b 8 (Rf.ptr y)).wi b 4 (Int32.ofNat 1)).r b 8 = Rf.ptr y := wr_at _ _ _ _
                  rw [eb8]
                  refine ⟨y, by rw [← hm3b]; exact hy7, rfl, z1, ?_, ?_, hty9, Or.inl ⟨rfl, hm3b, by omega, ?_⟩⟩
                  · rw [wi_ne (by omega)]
                    show τ7.i y 3 = _
                    rw [yi, if_pos rfl]
                  · show ((τ7.wr y 5 r7).wr b 8 (Rf.ptr y)).r y 7 = _
                    rw [wr_ne (by omega), wr_ne (by omega), yr]
                    exact q7
                  · have e55 : (((τ7.wr y 5 r7).wr b 8 (Rf.ptr y)).wi b 4 (Int32.ofNat 1)).r y 5 = r7 := by
                      show ((τ7.wr y 5 r7).wr b 8 (Rf.ptr y)).r y 5 = _
                      rw [wr_ne (by omega), wr_at]
                    rw [e55, ← hm3b]
                    exact T7.fr S7 Gall (fun i i1 i2 i3 => by omega)
                · show ((τ7.wr y 5 r7).wr b 8 (Rf.ptr y)).r y 8 = _
                  rw [wr_ne (by omega), wr_ne (by omega), yr]
                  exact q8
              · rw [hl4] at hlz
                cases hlz
          · refine h0 q ?_ τ7 a (w.tr (m0 := m) H6 (fun _ z => z) (by omega) (Nat.le_refl _))
            rw [epC, heq, hf7]
        refine S_X23_chain_65 S2.fx ?_
        rw [S2.cur.2.1]
        refine rs_counted (by omega) (by omega) S2 (fun τ3 S3 G3 => ⟨fun hn3 => ?_, fun hn3 => ⟨N, S3.md, S3.n22, ?_⟩⟩)
        · have C3 := C2.fr S2 G3 (fun _ _ _ z => z)
          obtain ⟨hn2, C3⟩ := C3
          rcases C3 with ⟨z1, z2, z3, z4⟩ | ⟨z1, jb, b, iz, z, g1, g2, g3, g4, g5, g6, g7, g8, g9, g10, g11, g12, g13, g14⟩
          · exact absurd z2 hn3
          · rw [List.append_assoc] at S3
            exact go τ3 m2 lst2 cap2 l3 jb b (S3.wk (by omega) (by omega)) (G2.tr G3 (fun _ z => z.elim) (Nat.le_refl _)) (Nat.le_refl _) g2 g1 g3 g4 g9 g10 g11 g12 hn2 g5 (Or.inr ⟨z1, iz, z, g6, g7, g13, g14⟩)
        · have C3 := C2.fr S2 G3 (fun _ _ _ z => z)
          obtain ⟨hn2, C3⟩ := C3
          rcases C3 with ⟨z1, z2, z3, z4⟩ | ⟨z1, jb, b, iz, z, g1, g2, g3, g4, g5, g6, g7, g8, g9, g10, g11, g12, g13, g14⟩
          · refine rs_get (by omega) S3 (by omega) (fun τ4 lst4 cap4 b S4 G4 hb hN => Or.inl ⟨Rf.ptr b, rfl, b, rfl, S4.ls.2.2.2.1 b (List.mem_of_getElem? hb), ?_⟩)
            obtain ⟨q0, q1, q2, q3, q4, q5, q6, q7, q8, q9, q10, q11⟩ := hN
            obtain ⟨S5, G5⟩ := S4.nwr (k := 5) (x := l2) hb
            rw [List.append_assoc] at S5
            subst z1
            refine go (τ4.wr b 5 l2) (m2 + 1) lst4 cap4 (Rf.ptr b) m2 b S5 (((G2.tr G3 (fun _ z => z.elim) (Nat.le_refl _)).tr G4 (fun j hj => by omega) (Nat.le_refl _)).tr G5 (fun j hj => by omega) (Nat.le_refl _)) (by omega) rfl hb (by omega) (by omega) q0 q4 (wr_at _ _ _ _) ((wr_ne (by omega)).trans q7) hn2 ((z4.fr S3 G4 (fun i i1 i2 i3 => by omega)).fr S4 G5 (fun i i1 i2 i3 => by omega)) (Or.inl ⟨rfl, z3, rfl⟩)
          · rw [hn3] at g2
            cases g2
      have stop : tyS t n p2 ≠ s1 → tyS t n p2 ≠ s2 → pCh t n sub s1 s2 (vsN t vs) p c = .inr (p2, c2', es2, mkCh x0 l) := by
        intro n1 n2
        rw [epC, heq, pLk, if_neg (by omega)]
      obtain ⟨t1, t2⟩ := C2.tree
      refine hops τ l2 l3 l4 K S2.fx (rs_is hk1 (by omega) S2 (fun y1 => ⟨fun _ => op (Or.inl y1), fun z => absurd z (by decide)⟩) (fun y1 => ⟨fun z => absurd rfl z, fun _ => rs_is hk2 (by omega) S2 (fun y2 => ⟨fun z => absurd z (by decide), fun _ => op (Or.inr y2)⟩) (fun y2 => ⟨fun _ => ⟨fun n3 => ?_, fun n3 => ?_⟩, fun z => absurd rfl z⟩)⟩))
      · exact h1 _ _ _ _ (stop y1 y2) τ m2 lst2 cap2 l3 S2 G2 hm2 hp2 (t1 n3) n3
      · exact h1 _ _ _ _ (stop y1 y2) τ m2 lst2 cap2 l2 S2 G2 hm2 hp2 (t2 n3) C2.1
  have hpn1 := S1.pn
  exact lp (n + 1 - p1) τ1 p1 c1' es1 [] r1 Rf.nul Rf.nul m1 lst1 cap1 (by omega) (by show 0 + (n + 1 - p1) ≤ 8300; omega) S1 G1 hm1 hp1 ⟨hr1, Or.inl ⟨rfl, rfl, rfl, T1⟩⟩ rfl
end CHAIN

/-! THE REFERENCE'S READER: test() -/
section TEST
variable {Z : zT} {d : Nat} {t : Nat → Int32} {n N : Nat} {env : Env} {B0 : Int32} {o : Nat} {sub : Pf}
theorem rs_two {σ : Sg} {p c : Nat} {x1 x2 : Int32} {vs : List (Nat × Nat)} {es : Evs} {m : Nat} {lst : List Nat} {cap u : Nat} {K : kS} {op : Nat} {r1 r2 : Rf} (hd : 8 ≤ d) (S : RS t n N env (x1, x2, Rf.ptr N) σ p c o vs es m lst cap u) (hu : u + 1 ≤ 23000) (h : ∀ τ lst' cap' v, RS t n N env (x1, x2, Rf.ptr N) τ p c o vs es (m + 1) lst' cap' (u + 1) → RF N vs.length σ τ lst cap lst' cap' (fun i => i = m) → lst'[m]? = some v → τ.sh[v]? = some (Sh.obj 21) → τ.i v 0 = Int32.ofNat op → τ.r v 5 = r1 → τ.r v 6 = r2 → K (.inl (some (.ref v))) τ) : B_X23_two_0 Z d σ (Int32.ofNat op) r1 r2 K := by
  obtain ⟨d, rfl⟩ : ∃ e, d = e + 1 := ⟨d - 1, by omega⟩
  refine S_X23_two_0 S.fx ⟨N, S.md, S.n22, ?_⟩
  refine rs_get (by omega) S hu (fun τ lst' cap' v S2 G2 hv hN => Or.inl ⟨Rf.ptr v, rfl, v, rfl, S2.ls.2.2.2.1 v (List.mem_of_getElem? hv), ?_⟩)
  obtain ⟨S3, G3⟩ := S2.nwr (k := 5) (x := r1) hv
  obtain ⟨S4, G4⟩ := S3.nwr (k := 6) (x := r2) hv
  exact h _ lst' cap' v S4 ((G2.tr G3 (fun _ z => z) (Nat.le_refl _)).tr G4 (fun _ z => z) (Nat.le_refl _)) hv (S4.ls.2.2.2.1 v (List.mem_of_getElem? hv)) hN.1 ((wr_ne (by omega)).trans (wr_at _ _ _ _)) (wr_at _ _ _ _)
theorem folT_ls (hZ : ZK Z) (hd : 19 ≤ d) {wj w op : Nat} (hk : (wj, w) ∈ wdL) (hop : 20 ≤ op) {sb : Sg → kS → Prop} {lp : Sg → Rf → kS → Prop} (hloop : ∀ (σ : Sg) (l1 : Rf) (K : kS), FX ΦR σ.sh σ.r → B_X23_skip_0 Z d σ (Rf.old wj) (yI K fun v τ => (v = 0 → K (.inl (some (rv l1))) τ) ∧ (¬ v = 0 → sb τ (yW K fun v6 τ4 => B_X23_two_0 Z d τ4 (Int32.ofNat op) l1 v6 (yW K fun v9 τ7 => lp τ7 v9 K)))) → lp σ l1 K) (Hs : FolT t n N env B0 sub o sb) : FolT t n N env B0 (pLs t n sub w op) o (fun σ K => sb σ (yW K fun v τ => lp τ v K)) := by
  intro σ p c k vs es m lst cap u K S hu h1 h0
  refine Hs σ p c k vs es m lst cap u _ S hu (fun p1 k1 es1 x1 hf τ1 m1 lst1 cap1 r1 S1 G1 hm1 hp1 T1 hr1 => Or.inl ⟨r1, rfl, ?_⟩) (fun q hf τ a w => Or.inr ⟨_, rfl, h0 q (by unfold pLs; rw [hf]; rfl) τ a w⟩)
  have epL : pLs t n sub w op (vsN t vs) p k = pLo t n sub w op (vsN t vs) (n + 1 - p1) p1 k1 es1 x1 := by
    unfold pLs
    rw [hf]
    rfl
  have loop : ∀ (f : Nat) (τ : Sg) (p2 k2 : Nat) (es2 : Evs) (x : Ast) (r : Rf) (m2 : Nat) (lst2 : List Nat) (cap2 : Nat), n - p2 < f → RS t n N env (B0, Int32.ofNat k2, Rf.ptr N) τ p2 c o vs (es ++ es2) m2 lst2 cap2 u → RF N vs.length σ τ lst cap lst2 cap2 (fun i => m ≤ i) → m ≤ m2 → p ≤ p2 → TsN τ (Rg lst2 m m2) x r → r ≠ Rf.nul → pLs t n sub w op (vsN t vs) p k = pLo t n sub w op (vsN t vs) f p2 k2 es2 x → lp τ r K := by
    intro f
    induction f with
    | zero => intro τ p2 k2 es2 x r m2 lst2 cap2 h; omega
    | succ f ih =>
      intro τ p2 k2 es2 x r m2 lst2 cap2 hf2 S2 G2 hm2 hp2 T2 hr2 heq
      have hpn := S2.pn
      obtain ⟨b1, b2, b3, b4, b5⟩ := S2.bd
      refine hloop τ r K S2.fx (rs_skip hk hZ (by omega) S2 (fun hy τ3 S3 G3 => ⟨fun z => absurd z (by decide), fun _ => ?_⟩) (fun hy => ⟨fun _ => ?_, fun z => absurd rfl z⟩))
      · have hp : p2 < n := ty_pos (t := t) (by have := (wdL_c _ hk).2.1; dsimp only at this; omega)
        have hg := nxS_gt (t := t) hp
        have H3 := G2.tr G3 (fun _ z => z.elim) (Nat.le_refl _)
        rw [pLo, if_pos hy] at heq
        refine Hs τ3 _ c k2 vs _ m2 lst2 cap2 _ _ S3 (by omega) (fun p4 k4 es4 y hf4 τ4 m4 lst4 cap4 r4 S4 G4 hm4 hp4 T4 hr4 => Or.inl ⟨r4, rfl, ?_⟩) (fun q hf4 τ4 a w => Or.inr ⟨_, rfl, h0 q (by rw [heq, hf4]) τ4 a (w.tr (m0 := m) H3 (fun _ z => z) hm2 (Nat.le_refl _))⟩)
        rw [hf4] at heq
        have T3 := (T2.fr S2 G3 (fun _ _ _ z => z)).fr S3 G4 (fun i i1 i2 => by omega)
        have H4 := H3.tr G4 (fun j hj => by omega) (Nat.le_refl _)
        refine rs_two (by omega) S4 (by omega) (fun τ5 lst5 cap5 v S5 G5 hv hs e0 e5 e6 => Or.inl ⟨Rf.ptr v, rfl, ?_⟩)
        rw [List.append_assoc] at S5
        refine ih τ5 p4 k4 _ _ (Rf.ptr v) (m4 + 1) lst5 cap5 (by omega) (S5.wk (by omega) (by omega)) (H4.tr G5 (fun j hj => by omega) (Nat.le_refl _)) (by omega) (by omega) ?_ (by intro z; cases z) heq
        rw [TsN_aN]
        refine ⟨v, rfl, ⟨m4, by omega, by omega, hv⟩, hs, e0, Or.inr (Or.inr ⟨hop, ?_, ?_⟩)⟩
        · rw [e5]
          exact (T3.fr S4 G5 (fun i i1 i2 i3 => by omega)).wk (Nat.le_refl _) (by omega)
        · rw [e6]
          exact (T4.fr S4 G5 (fun i i1 i2 i3 => by omega)).wk (by omega) (by omega)
      · rw [pLo, if_neg hy] at heq
        exact h1 _ _ _ _ heq τ m2 lst2 cap2 r S2 G2 hm2 hp2 T2 hr2
  have hpn1 := S1.pn
  exact loop (n + 1 - p1) τ1 p1 k1 es1 x1 r1 m1 lst1 cap1 (by omega) S1 G1 hm1 hp1 T1 hr1 epL
theorem folT_cj (hZ : ZK Z) (hd : 19 ≤ d) (Hs : FolT t n N env B0 sub o (B_X23_single_0 Z d)) : FolT t n N env B0 (pLs t n sub 30 21) o (B_X23_conjunction_0 Z (d + 1)) := by
  intro σ p c k vs es m lst cap u K S hu h1 h0
  exact S_X23_conjunction_0 S.fx (folT_ls (lp := fun σ r K => B_X23_conjunction_5 Z (d + 1) σ r K) hZ hd (by decide) (by decide) (fun σ l1 K F w => S_X23_conjunction_5 F w) Hs σ p c k vs es m lst cap u K S hu h1 h0)
theorem folT_tt (hZ : ZK Z) (hd : 19 ≤ d) (Hs : FolT t n N env B0 sub o (B_X23_single_0 Z d)) : FolT t n N env B0 (pTt t n sub) o (B_X23_test_0 Z (d + 2)) := by
  intro σ p c k vs es m lst cap u K S hu h1 h0
  exact S_X23_test_0 S.fx (folT_ls (lp := fun σ r K => B_X23_test_5 Z (d + 2) σ r K) hZ (by omega) (by decide) (by decide) (fun σ l1 K F w => S_X23_test_5 F w) (folT_cj hZ hd Hs) σ p c k vs es m lst cap u K S hu h1 h0)
/-- tests are read as the document has them -/
theorem folT_s (hZ : ZK Z) : ∀ (r o d : Nat), o + r = 12 → 24 + 3 * r ≤ d → FolT t n N env B0 (pTs t n env r) o (B_X23_single_0 Z d) := by
  intro r
  induction r with
  | zero =>
    intro o d ho hd
    obtain ⟨d, rfl⟩ : ∃ x, d = x + 1 := ⟨d - 1, by omega⟩
    intro σ p c k vs es m lst cap u K S hu h1 h0
    exact S_X23_single_0 S.fx (rs_into hZ (by omega) S (fun z => by omega) (fun _ τ a w => h0 p rfl τ a w))
  | succ r ih =>
    intro o d ho hd
    obtain ⟨d, rfl⟩ : ∃ x, d = x + 3 := ⟨d - 3, by omega⟩
    intro σ p c k vs es m lst cap u K S hu h1 h0
    have hvo := S.vo
    have hpn := S.pn
    obtain ⟨b1, b2, b3, b4, b5⟩ := S.bd
    have fin : ∀ p' k' es' x, pTs t n env (r + 1) (vsN t vs) p k = .inr (p', k', es', x) → ∀ τ m' lst' cap' r', RS t n N env (B0, Int32.ofNat k', Rf.ptr N) τ p' c (o + 1) vs (es ++ es') m' lst' cap' u → RF N vs.length σ τ lst cap lst' cap' (fun i => m ≤ i) → m ≤ m' → p ≤ p' → TsN τ (Rg lst' m m') x r' → r' ≠ Rf.nul → K (.inl (some (rv r'))) (τ.wi 0 20 (τ.i 0 20 - 1)) := by
      intro p' k' es' x hf τ m' lst' cap' r' S' G' hm hp' T hr
      obtain ⟨S2, G2⟩ := S'.out hvo.1
      exact h1 p' k' es' x hf _ m' lst' cap' r' S2 (G'.tr G2 (fun _ z => z.elim) (Nat.le_refl _)) hm hp' (T.fr S' G2 (fun _ _ _ z => z)) hr
    refine S_X23_single_0 (d := d + 2) S.fx (rs_into hZ (by omega) S (fun _ τ1 S1 G1 => ?_) (fun z => by omega))
    have H1 : RF N vs.length σ τ1 lst cap lst cap (fun i => m ≤ i) := G1.wk (fun _ z => z.elim) (Nat.le_refl _)
    refine rs_skip (y := 32) (by decide) hZ (by omega) S1 (fun h32 τ2 S2 G2 => ⟨fun z => absurd z (by decide), fun _ => ⟨N, S2.md, S2.n22, ?_⟩⟩) (fun n32 => ⟨fun _ => ?_, fun z => absurd rfl z⟩)
    · have hp : p < n := ty_pos (t := t) (by omega)
      have hg := nxS_gt (t := t) hp
      have H2 := H1.tr G2 (fun _ z => z.elim) (Nat.le_refl _)
      have epE : pTs t n env (r + 1) (vsN t vs) p k = bnd (pTs t n env r (vsN t vs) (nxS t n p) k) fun p1 k1 es a => .inr (p1, k1, es, aN 22 0 0 a .nil .nil) := by
        rw [pTs]
        dsimp only
        rw [if_pos h32]
      refine rs_get (by omega) S2 (by omega) (fun τ4 lst4 cap4 v S4 G4 hv hN => Or.inl ⟨Rf.ptr v, rfl, ?_⟩)
      obtain ⟨q0, q1, q2, q3, q4, q5, q6, q7, q8, q9, q10, q11⟩ := hN
      have H4 := H2.tr G4 (fun j hj => by omega) (Nat.le_refl _)
      refine ih (o + 1) (d + 2) (by omega) (by omega) τ4 _ c k vs _ (m + 1) lst4 cap4 _ _ S4 (by omega) (fun p5 k5 es5 x hf τ5 m5 lst5 cap5 r5 S5 G5 hm5 hp5 T5 hr5 => Or.inl ⟨r5, rfl, v, rfl, ?_⟩) (fun q hf τ5 a w => Or.inr ⟨_, rfl, h0 q (by rw [epE, hf]; rfl) τ5 a (w.tr (m0 := m) H4 (fun _ z => z) (by omega) (Nat.le_refl _))⟩)
      have hv5 := G5.pre _ _ hv
      obtain ⟨w1, w2, w3, w4⟩ := nd_keep S4 G5 hv (by omega)
      obtain ⟨S6, G6⟩ := S5.nwr (k := 5) (x := r5) hv5
      refine ⟨w1, ?_⟩
      refine fin p5 k5 _ _ (by rw [epE, hf]; rfl) (τ5.wr v 5 r5) m5 lst5 cap5 (Rf.ptr v) (S6.wk (by omega) (by omega)) ((H4.tr G5 (fun j hj => by omega) (Nat.le_refl _)).tr G6 (fun j hj => by omega) (Nat.le_refl _)) (by omega) (by omega) ?_ (by intro z; cases z)
      rw [TsN_aN]
      refine ⟨v, rfl, ⟨m, Nat.le_refl _, by omega, hv5⟩, w1, by show τ5.i v 0 = _; rw [w2]; exact q0, Or.inr (Or.inr ⟨by decide, ?_, ?_⟩)⟩
      · rw [wr_at]
        exact (T5.fr S5 G6 (fun i i1 i2 i3 => by omega)).wk (by omega) (Nat.le_refl _)
      · rw [wr_ne (by omega), w4]
        exact q6
    · refine rs_is (y := 4) (by decide) (by omega) S1 (fun h4 => ⟨fun z => absurd z (by decide), fun _ => ?_⟩) (fun n4 => ⟨fun _ => ?_, fun z => absurd rfl z⟩)
      · have hp : p < n := ty_pos (t := t) (by omega)
        have hg := nxS_gt (t := t) hp
        have epE : pTs t n env (r + 1) (vsN t vs) p k = bnd (pTt t n (pTs t n env r) (vsN t vs) (nxS t n p) k) fun p1 k1 es a => if tyS t n p1 = 5 then .inr (nxS t n p1, k1, es, a) else .inl p1 := by
          rw [pTs]
          dsimp only
          rw [if_neg n32, if_pos h4]
        refine rs_next hZ (by omega) S1 hp (fun τ2 S2 G2 => ?_)
        have H2 := H1.tr G2 (fun _ z => z.elim) (Nat.le_refl _)
        refine folT_tt (d := d) hZ (by omega) (ih (o + 1) d (by omega) (by omega)) τ2 _ c k vs _ m lst cap _ _ S2 (by omega) (fun p5 k5 es5 x hf τ5 m5 lst5 cap5 r5 S5 G5 hm5 hp5 T5 hr5 => Or.inl ⟨r5, rfl, ?_⟩) (fun q hf τ5 a w => Or.inr ⟨_, rfl, h0 q (by rw [epE, hf]; rfl) τ5 a (w.tr (m0 := m) H2 (fun _ z => z) (by omega) (Nat.le_refl _))⟩)
        have H5 := H2.tr G5 (fun j hj => hj) (Nat.le_refl _)
        have epF : pTs t n env (r + 1) (vsN t vs) p k = if tyS t n p5 = 5 then .inr (nxS t n p5, k5, es5, x) else .inl p5 := by
          rw [epE, hf]
          rfl
        refine rs_want (y := 5) (by decide) hZ (by omega) S5 (fun h5 τ6 S6 G6 => ?_) (fun n5 τ6 a w => h0 _ (by rw [epF, if_neg n5]) τ6 a (w.tr (m0 := m) H5 (fun _ z => z) hm5 (Nat.le_refl _)))
        have hg5 := nxS_gt (t := t) (n := n) (p := p5) (ty_pos (t := t) (by omega))
        exact fin _ k5 es5 x (by rw [epF, if_pos h5]) τ6 m5 lst5 cap5 r5 (S6.wk (by omega) (by omega)) (H5.tr G6 (fun _ z => z.elim) (Nat.le_refl _)) hm5 (by omega) (T5.fr S5 G6 (fun _ _ _ z => z)) hr5
      · have epE : pTs t n env (r + 1) (vsN t vs) p k = pCm t n env (vsN t vs) p k := by
          rw [pTs]
          dsimp only
          rw [if_neg n32, if_neg n4]
        refine folT_cm (d := d + 1) hZ (by omega) τ1 p c k vs es m lst cap u _ S1 hu (fun p5 k5 es5 x hf τ5 m5 lst5 cap5 r5 S5 G5 hm5 hp5 T5 hr5 => Or.inl ⟨r5, rfl, ?_⟩) (fun q hf τ5 a w => Or.inr ⟨_, rfl, h0 q (by rw [epE]; exact hf) τ5 a (w.tr (m0 := m) H1 (fun _ z => z) (Nat.le_refl _) (Nat.le_refl _))⟩)
        exact fin p5 k5 es5 x (by rw [epE]; exact hf) τ5 m5 lst5 cap5 r5 S5 (H1.tr G5 (fun _ z => z) (Nat.le_refl _)) hm5 hp5 T5 hr5
end TEST

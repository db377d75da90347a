/-! THE REFERENCE'S READER: comparison() -/
theorem pSg_rng {t : Nat → Int32} {n p p' : Nat} {v : Int} (h : pSg t n p = .inr (v, p')) : Int32.toInt64 (Int32.ofInt v) = Int64.ofInt v := by
  have key : ∀ q, tyS t n q = 3 → Int32.toInt64 (Int32.ofInt (vaS t n q).toInt) = Int64.ofInt (vaS t n q).toInt ∧ Int32.toInt64 (Int32.ofInt (-(vaS t n q).toInt)) = Int64.ofInt (-(vaS t n q).toInt) := by
    intro q hq
    have h1 := va_rng hq
    have h2 := (vaS t n q).toInt_lt
    refine ⟨?_, ?_⟩
    · rw [i64_32, Int32.toInt_ofInt_of_le (by omega) (by omega)]
    · rw [i64_32, Int32.toInt_ofInt_of_le (by omega) (by omega)]
  unfold pSg at h
  split at h
  · split at h
    · rename_i h2
      cases h
      exact (key _ h2).2
    · cases h
  · split at h
    · rename_i h2
      cases h
      exact (key _ h2).1
    · cases h
section CMPT
variable {Z : zT} {d : Nat} {t : Nat → Int32} {n N : Nat} {env : Env} {B0 : Int32} {σ τ : Sg} {p c o k : Nat} {vs : List (Nat × Nat)} {es E : Evs} {m : Nat} {lst : List Nat} {cap u : Nat} {K : kS} {w : Nat}
/-- a comparison behind its left side -/
theorem rs_c119 (hZ : ZK Z) (hd : 20 ≤ d) {i v : Nat} {pa mo : Int} (S : RS t n N env (B0, Int32.ofNat k, Rf.ptr N) σ p c o vs (E ++ es) m lst cap u) (hw : w ≤ 8192) (hv : lst[i]? = some v) (e0 : σ.i v 0 = 8) (e9 : σ.i v 9 = Int32.ofInt pa) (e10 : σ.i v 10 = -1) (el : σ.l v 11 = Int64.ofInt mo) (e5 : σ.r v 5 = Rf.nul) (e6 : σ.r v 6 = Rf.nul)
    (h1 : ∀ p' k' es' x, pC2 t n (vsN t vs) p k w es pa mo = .inr (p', k', es', x) → ∀ τ, RS t n N env (B0, Int32.ofNat k', Rf.ptr N) τ p' c o vs (E ++ es') m lst cap u → RF N vs.length σ τ lst cap lst cap (fun j => j = i) → p ≤ p' → TsN τ (Rg lst i (i + 1)) x (Rf.ptr v) → K (.inl (some (.ref v))) τ)
    (h0 : ∀ q, pC2 t n (vsN t vs) p k w es pa mo = .inl q → i ≤ m → ∀ τ a, WR n N vs.length σ lst i cap τ a q → K (.inr ("DispatchHouseModel$Wrong", a)) τ) (him : i ≤ m) : B_X23_comparison_119 Z (d + 1) σ (Int32.ofNat w) v K := by
  obtain ⟨b1, b2, b3, b4, b5⟩ := S.bd
  refine S_X23_comparison_119 S.fx (rs_counts (by omega) hw S (fun τ1 S1 G1 => ?_))
  have hpn := S.pn
  obtain ⟨x1, x2, x3, x4⟩ := nd_keep S G1 hv (fun z => z)
  have H1 : RF N vs.length σ τ1 lst cap lst cap (fun j => j = i) := G1.wk (fun _ z => z.elim) (Nat.le_refl _)
  have go : tyS t n p = 15 ∨ tyS t n p = 17 ∨ tyS t n p = 16 → B_X23_comparison_158 Z (d + 1) τ1 v K := by
    intro hty
    have hp : p < n := ty_pos (t := t) (by omega)
    have hg := nxS_gt (t := t) hp
    have hnx := nxS_le t (n := n) (p := p) (by omega)
    unfold pC2 at h1 h0
    rw [if_pos hty] at h1 h0
    refine S_X23_comparison_158 S1.fx ⟨x1, ?_⟩
    have hval : τ1.i 0 19 = chV (tyS t n p) := by
      rcases hty with z | z | z
      · exact rs_val (x := 60) S1 (by decide) z
      · exact rs_val (x := 316) S1 (by decide) z
      · exact rs_val (x := 317) S1 (by decide) z
    rw [hval]
    obtain ⟨S2, G2⟩ := S1.nwi (k := 3) (x := chV (tyS t n p)) hv
    refine rs_next hZ (by omega) S2 hp (fun τ3 S3 G3 => ?_)
    have H3 := (H1.tr G2 (fun _ z => z) (Nat.le_refl _)).tr G3 (fun _ z => z.elim) (Nat.le_refl _)
    obtain ⟨y1, y2, y3, y4⟩ := nd_keep S2 G3 hv (fun z => z)
    have f0 : τ3.i v 0 = 8 := by
      rw [y2, wi_ne (by omega), x2]
      exact e0
    have f3 : τ3.i v 3 = chV (tyS t n p) := by rw [y2, wi_at]
    have f9 : τ3.i v 9 = Int32.ofInt pa := by
      rw [y2, wi_ne (by omega), x2]
      exact e9
    have f10 : τ3.i v 10 = -1 := by
      rw [y2, wi_ne (by omega), x2]
      exact e10
    have fl : τ3.l v 11 = Int64.ofInt mo := by
      rw [y3]
      show τ1.l v 11 = _
      rw [x3]
      exact el
    have f5 : τ3.r v 5 = Rf.nul := by
      rw [y4]
      show τ1.r v 5 = _
      rw [x4]
      exact e5
    have f6 : τ3.r v 6 = Rf.nul := by
      rw [y4]
      show τ1.r v 6 = _
      rw [x4]
      exact e6
    refine ⟨fun n2 => ?_, fun h2 => ?_⟩
    · have n2 : tyS t n (nxS t n p) ≠ 2 := fun z => n2 ((ty_lo (k := 2) (Or.inl rfl) S3.cur).mpr z)
      rw [if_neg n2] at h1 h0
      refine rs_signed hZ (by omega) S3 (fun b p' hs τ4 S4 G4 => ?_) (fun q hs τ4 a w => h0 q (by rw [hs]) him τ4 a (w.tr (m0 := i) H3 (fun j hj => by omega) him (Nat.le_refl _)))
      obtain ⟨z1, z2, z3, z4⟩ := nd_keep S3 G4 hv (fun z => z)
      refine ⟨z1, ?_⟩
      have ell : τ4.l v 11 - Int32.toInt64 (Int32.ofInt b) = Int64.ofInt (mo - b) := by
        rw [z3, fl, pSg_rng hs, Int64.ofInt_sub]
      rw [ell]
      obtain ⟨S5, G5⟩ := S4.nwl (k := 11) (x := Int64.ofInt (mo - b)) hv
      rw [List.append_assoc] at S5
      have hle := pSg_le hs
      refine h1 _ _ _ _ (by rw [hs]) _ (S5.wk (by omega) (by omega)) ((H3.tr G4 (fun _ z => z.elim) (Nat.le_refl _)).tr G5 (fun _ z => z) (Nat.le_refl _)) (by omega) ?_
      rw [TsN_aN]
      refine ⟨v, rfl, ⟨i, Nat.le_refl _, by omega, hv⟩, z1, by show τ4.i v 0 = _; rw [z2]; exact f0, Or.inl ⟨rfl, ⟨by show τ4.i v 3 = _; rw [z2]; exact f3, by show τ4.i v 9 = _; rw [z2]; exact f9, -1, mo - b, rfl, by show τ4.i v 10 = _; rw [z2]; exact f10, up_same _ _ _ _⟩, by show τ4.r v 5 = _; rw [z4]; exact f5, by show τ4.r v 6 = _; rw [z4]; exact f6⟩⟩
    · have h2 : tyS t n (nxS t n p) = 2 := (ty_lo (k := 2) (Or.inl rfl) S3.cur).mp h2
      rw [if_pos h2] at h1 h0
      have hg2 := nxS_gt (t := t) (n := n) (p := nxS t n p) (ty_pos (t := t) (by omega))
      refine rs_name hZ (by omega) S3 (fun _ hq hl τ4 S4 G4 => ?_) (fun z => absurd h2 z)
      rw [S3.cur.2.1]
      refine rs_spec (by omega) (by omega) hq hl S4 (fun τ5 S5 G5 => ?_)
      have G35 := G4.tr G5 (fun _ z => z) (Nat.le_refl _)
      obtain ⟨z1, z2, z3, z4⟩ := nd_keep S3 G35 hv (fun z => z)
      refine ⟨z1, ?_⟩
      have enm : txN t (nxS t n p) (lnS t n (nxS t n p)) = nmS t n (nxS t n p) := rfl
      rw [enm] at S5 ⊢
      obtain ⟨S6, G6⟩ := S5.nwi (k := 10) (x := Int32.ofInt (spV (vsN t vs) (nmS t n (nxS t n p)))) hv
      have H6 := (H3.tr G35 (fun _ z => z.elim) (Nat.le_refl _)).tr G6 (fun _ z => z) (Nat.le_refl _)
      refine rs_behind hZ (by omega) S6 (fun b p' hs τ7 S7 G7 hle => ?_) (fun q hs τ7 a w => h0 q (by rw [hs]) him τ7 a (w.tr (m0 := i) H6 (fun j hj => by omega) him (Nat.le_refl _)))
      obtain ⟨w1, w2, w3, w4⟩ := nd_keep S6 G7 hv (fun z => z)
      refine ⟨w1, ?_⟩
      have ell : τ7.l v 11 - Int64.ofInt b = Int64.ofInt (mo - b) := by
        rw [w3]
        show τ5.l v 11 - _ = _
        rw [z3, fl, Int64.ofInt_sub]
      rw [ell]
      obtain ⟨S8, G8⟩ := S7.nwl (k := 11) (x := Int64.ofInt (mo - b)) hv
      have eas : E ++ es ++ ctE k w ++ spE (vsN t vs) (nmS t n (nxS t n p)) (nxS t n p) = E ++ (es ++ ctE k w ++ spE (vsN t vs) (nmS t n (nxS t n p)) (nxS t n p)) := by simp only [List.append_assoc]
      rw [eas] at S8
      refine h1 _ _ _ _ (by rw [hs]) _ (S8.wk (by omega) (by omega)) ((H6.tr G7 (fun _ z => z.elim) (Nat.le_refl _)).tr G8 (fun _ z => z) (Nat.le_refl _)) (by omega) ?_
      rw [TsN_aN]
      have g : ∀ x, x ≠ 10 → τ7.i v x = τ3.i v x := fun x hx => by
        rw [w2, wi_ne (by omega), z2]
      refine ⟨v, rfl, ⟨i, Nat.le_refl _, by omega, hv⟩, w1, by show τ7.i v 0 = _; rw [g 0 (by decide)]; exact f0, Or.inl ⟨rfl, ⟨by show τ7.i v 3 = _; rw [g 3 (by decide)]; exact f3, by show τ7.i v 9 = _; rw [g 9 (by decide)]; exact f9, _, mo - b, rfl, by show τ7.i v 10 = _; rw [w2, wi_at], up_same _ _ _ _⟩, ?_, ?_⟩⟩
      · show τ7.r v 5 = _
        rw [w4]
        show τ5.r v 5 = _
        rw [z4]
        exact f5
      · show τ7.r v 6 = _
        rw [w4]
        show τ5.r v 6 = _
        rw [z4]
        exact f6
  refine rs_is (y := 15) (by decide) (by omega) S1 (fun y => ⟨fun _ => go (Or.inl y), fun z => absurd z (by decide)⟩) (fun n15 => ⟨fun z => absurd rfl z, fun _ => ?_⟩)
  refine rs_is (y := 17) (by decide) (by omega) S1 (fun y => ⟨fun _ => go (Or.inr (Or.inl y)), fun z => absurd z (by decide)⟩) (fun n17 => ⟨fun z => absurd rfl z, fun _ => ?_⟩)
  refine rs_is (y := 16) (by decide) (by omega) S1 (fun y => ⟨fun _ => go (Or.inr (Or.inr y)), fun z => absurd z (by decide)⟩) (fun n16 => ⟨fun z => absurd rfl z, fun _ => ?_⟩)
  obtain ⟨d, rfl⟩ : ∃ e, d = e + 2 := ⟨d - 2, by omega⟩
  exact rf_no hZ (by omega) S1.fx fun υ a f1 f2 => ⟨_, wrg_aT f2, h0 p (by unfold pC2; rw [if_neg (by omega)]) him υ a ((S1.wr f1 f2).tr (m0 := i) G1 (fun _ z => z.elim) him (Nat.le_refl _))⟩
theorem folT_cm (hZ : ZK Z) (hd : 20 ≤ d) : FolT t n N env B0 (pCm t n env) o (B_X23_comparison_0 Z (d + 1)) := by
  intro σ p c k vs es m lst cap u K S hu h1 h0
  have hpn := S.pn
  obtain ⟨b1, b2, b3, b4, b5⟩ := S.bd
  refine S_X23_comparison_0 S.fx ⟨N, S.md, S.n22, ?_⟩
  rw [S.cur.2.1]
  refine rs_get (by omega) S (by omega) (fun τ1 lst1 cap1 v S1 G1 hv hN => Or.inl ⟨Rf.ptr v, rfl, ?_⟩)
  obtain ⟨q0, q1, q2, q3, q4, q5, q6, q7, q8, q9, q10, q11⟩ := hN
  have H1 : RF N vs.length σ τ1 lst cap lst1 cap1 (fun j => m ≤ j) := G1.wk (fun j hj => by omega) (Nat.le_refl _)
  -- behind the left side
  have go : ∀ (τ : Sg) (p1 : Nat) (es1 : Evs) (pa mo : Int), p ≤ p1 → RS t n N env (B0, Int32.ofNat k, Rf.ptr N) τ p1 c o vs (es ++ es1) (m + 1) lst1 cap1 u → RF N vs.length σ τ lst cap lst1 cap1 (fun j => m ≤ j) → τ.i v 0 = 8 → τ.i v 9 = Int32.ofInt pa → τ.i v 10 = -1 → τ.l v 11 = Int64.ofInt mo → τ.r v 5 = Rf.nul → τ.r v 6 = Rf.nul → pCm t n env (vsN t vs) p k = pC2 t n (vsN t vs) p1 k p es1 pa mo → B_X23_comparison_119 Z (d + 1) τ (Int32.ofNat p) v K := by
    intro τ p1 es1 pa mo hp1 S2 H2 f0 f9 f10 fl f5 f6 he
    rw [he] at h1 h0
    refine rs_c119 hZ hd S2 (by omega) hv f0 f9 f10 fl f5 f6 (fun p' k' es' x hx υ S3 G3 hp3 T3 => ?_) (fun q hx _ υ a w => h0 q hx υ a (w.tr (m0 := m) H2 (fun _ z => z) (Nat.le_refl _) (Nat.le_refl _))) (by omega)
    exact h1 p' k' es' x hx υ (m + 1) lst1 cap1 (Rf.ptr v) S3 (H2.tr G3 (fun j hj => by omega) (Nat.le_refl _)) (by omega) (by omega) T3 (by intro z; cases z)
  refine ⟨fun n2 => ?_, fun h2 => ?_⟩
  · have n2 : tyS t n p ≠ 2 := fun z => n2 ((ty_lo (k := 2) (Or.inl rfl) S1.cur).mpr z)
    refine rs_signed hZ (by omega) S1 (fun a p1 hs τ2 S2 G2 => ⟨v, rfl, ?_⟩) (fun q hs τ2 a w => h0 q (by unfold pCm; rw [if_neg n2, hs]) τ2 a (w.tr (m0 := m) H1 (fun _ z => z) (by omega) (Nat.le_refl _)))
    obtain ⟨z1, z2, z3, z4⟩ := nd_keep S1 G2 hv (fun z => z)
    refine ⟨z1, ?_⟩
    rw [pSg_rng hs]
    obtain ⟨S3, G3⟩ := S2.nwl (k := 11) (x := Int64.ofInt a) hv
    refine go _ p1 [] (-1) a (pSg_le hs) (by rw [List.append_nil]; exact S3.wk (by omega) (by omega)) ((H1.tr G2 (fun _ z => z.elim) (Nat.le_refl _)).tr G3 (fun j hj => by omega) (Nat.le_refl _)) (by show τ2.i v 0 = _; rw [z2]; exact q0) (by show τ2.i v 9 = _; rw [z2]; exact q9) (by show τ2.i v 10 = _; rw [z2]; exact q10) (up_same _ _ _ _) (by show τ2.r v 5 = _; rw [z4]; exact q5) (by show τ2.r v 6 = _; rw [z4]; exact q6) ?_
    unfold pCm
    rw [if_neg n2, hs]
  · have h2 : tyS t n p = 2 := (ty_lo (k := 2) (Or.inl rfl) S1.cur).mp h2
    have hp : p < n := ty_pos (t := t) (by omega)
    have hg := nxS_gt (t := t) hp
    have hnx := nxS_le t (n := n) (p := p) (by omega)
    refine rs_name hZ (by omega) S1 (fun _ hq hl τ2 S2 G2 => ?_) (fun z => absurd h2 z)
    refine rs_spec (by omega) (by omega) hq hl S2 (fun τ3 S3 G3 => ?_)
    have enm : txN t p (lnS t n p) = nmS t n p := rfl
    rw [enm] at S3 ⊢
    have G13 := G2.tr G3 (fun _ z => z) (Nat.le_refl _)
    have H3 := H1.tr G13 (fun _ z => z.elim) (Nat.le_refl _)
    obtain ⟨z1, z2, z3, z4⟩ := nd_keep S1 G13 hv (fun z => z)
    refine rs_skip (y := 33) (by decide) hZ (by omega) S3 (fun h33 τ4 S4 G4 => ⟨fun z => absurd z (by decide), fun _ => ?_⟩) (fun n33 => ⟨fun _ => ⟨v, rfl, z1, ?_⟩, fun z => absurd rfl z⟩)
    · -- is
      have hg2 := nxS_gt (t := t) (n := n) (p := nxS t n p) (ty_pos (t := t) (by omega))
      have hnx2 := nxS_le t (n := n) (p := nxS t n p) (by omega)
      have epE : pCm t n env (vsN t vs) p k = if tyS t n (nxS t n (nxS t n p)) = 2 then .inr (nxS t n (nxS t n (nxS t n p)), k + 1, spE (vsN t vs) (nmS t n p) p ++ ctE k p ++ (if env.1 (nmS t n (nxS t n (nxS t n p))) = none then [(nxS t n (nxS t n p), 3)] else []), aN 9 (idx (env.1 (nmS t n (nxS t n (nxS t n p))))) (spV (vsN t vs) (nmS t n p)) .nil .nil .nil)
        else .inl (nxS t n (nxS t n p)) := by
        unfold pCm
        rw [if_pos h2, if_pos h33]
      refine rs_counts (by omega) (by omega) S4 (fun τ5 S5 G5 => ?_)
      have H5 := (H3.tr G4 (fun _ z => z.elim) (Nat.le_refl _)).tr G5 (fun _ z => z.elim) (Nat.le_refl _)
      refine rs_name hZ (by omega) S5 (fun h2' hq' hl' τ6 S6 G6 => ?_) (fun n2' τ6 a w => h0 _ (by rw [epE, if_neg n2']) τ6 a (w.tr (m0 := m) H5 (fun _ z => z) (by omega) (Nat.le_refl _)))
      rw [if_pos h2'] at epE
      have hg3 := nxS_gt (t := t) (n := n) (p := nxS t n (nxS t n p)) (ty_pos (t := t) (by omega))
      have H6 := H5.tr G6 (fun _ z => z.elim) (Nat.le_refl _)
      refine rs_kind (by omega) S6 hq' hl' ?_
      have enm2 : txN t (nxS t n (nxS t n p)) (lnS t n (nxS t n (nxS t n p))) = nmS t n (nxS t n (nxS t n p)) := rfl
      rw [enm2]
      have G36 := (G4.tr G5 (fun _ z => z) (Nat.le_refl _)).tr G6 (fun _ z => z) (Nat.le_refl _)
      obtain ⟨y1, y2, y3, y4⟩ := nd_keep S3 G36 hv (fun z => z)
      have fin : ∀ (τ : Sg) (es8 : Evs), es8 = (if env.1 (nmS t n (nxS t n (nxS t n p))) = none then [(nxS t n (nxS t n p), 3)] else []) → RS t n N env (B0, Int32.ofNat (k + 1), Rf.ptr N) τ (nxS t n (nxS t n (nxS t n p))) c o vs (es ++ spE (vsN t vs) (nmS t n p) p ++ ctE k p ++ es8) (m + 1) lst1 cap1 (u + 1 - 2 - 2 - 2) → RF N vs.length τ6 τ lst1 cap1 lst1 cap1 (fun _ => False) → B_X23_comparison_75 Z (d + 1) τ (Rf.ptr v) (Int32.ofInt (spV (vsN t vs) (nmS t n p))) (Int32.ofInt (idx (env.1 (nmS t n (nxS t n (nxS t n p)))))) K := by
        intro τ es8 he S8 G8
        rw [← he] at epE
        obtain ⟨w1, w2, w3, w4⟩ := nd_keep S6 G8 hv (fun z => z)
        refine S_X23_comparison_75 S8.fx ⟨v, rfl, w1, ?_⟩
        obtain ⟨S9, G9⟩ := S8.nwi (k := 0) (x := 9) hv
        obtain ⟨S10, G10⟩ := S9.nwi (k := 2) (x := Int32.ofInt (spV (vsN t vs) (nmS t n p))) hv
        obtain ⟨S11, G11⟩ := S10.nwi (k := 1) (x := Int32.ofInt (idx (env.1 (nmS t n (nxS t n (nxS t n p)))))) hv
        have eas : es ++ spE (vsN t vs) (nmS t n p) p ++ ctE k p ++ es8 = es ++ (spE (vsN t vs) (nmS t n p) p ++ ctE k p ++ es8) := by simp only [List.append_assoc]
        rw [eas] at S11
        refine h1 _ _ _ _ epE _ (m + 1) lst1 cap1 (Rf.ptr v) (S11.wk (by omega) (by omega)) ((((H6.tr G8 (fun _ z => z.elim) (Nat.le_refl _)).tr G9 (fun j hj => by omega) (Nat.le_refl _)).tr G10 (fun j hj => by omega) (Nat.le_refl _)).tr G11 (fun j hj => by omega) (Nat.le_refl _)) (by omega) (by omega) ?_ (by intro z; cases z)
        rw [TsN_aN]
        refine ⟨v, rfl, ⟨m, Nat.le_refl _, by omega, hv⟩, w1, ?_, Or.inr (Or.inl ⟨rfl, ?_, wi_at _ _ _ _, ?_, ?_⟩)⟩
        · rw [wi_ne (by omega), wi_ne (by omega), wi_at]
          rfl
        · rw [wi_ne (by omega), wi_at]
        · show τ.r v 5 = _
          rw [w4, y4, z4]
          exact q5
        · show τ.r v 6 = _
          rw [w4, y4, z4]
          exact q6
      have enk : ∀ j, env.1 (nmS t n (nxS t n (nxS t n p))) = some j → j < 24 := by
        intro j hj
        obtain ⟨ks, cs, ls, ⟨k1, k2, k3, k4, k5⟩, -⟩ := S6.en
        rw [k4] at hj
        have := fi_lt hj
        omega
      cases hk : env.1 (nmS t n (nxS t n (nxS t n p))) with
      | some j =>
        have k24 := enk j hk
        rw [hk] at fin
        refine ⟨fun _ => fin τ6 [] (by rw [if_neg (by intro z; cases z)]) ?_ (RF.refl _ _ _ _ _ _), fun z => absurd ((oN_le (a := 0) (by omega) (by omega)).mpr (Nat.zero_le j)) z⟩
        rw [List.append_nil]
        exact S6
      | none =>
        rw [hk] at fin
        refine ⟨fun z => absurd z (by decide), fun _ => ?_⟩
        rw [S5.cur.2.1]
        exact rs_breaks (r := 3) (by omega) (by omega) (by decide) S6 (fun τ8 S8 G8 => fin τ8 [(nxS t n (nxS t n p), 3)] (by rw [if_pos rfl]) S8 G8)
    · obtain ⟨S4, G4⟩ := S3.nwi (k := 9) (x := Int32.ofInt (spV (vsN t vs) (nmS t n p))) hv
      have H4 := H3.tr G4 (fun j hj => by omega) (Nat.le_refl _)
      refine rs_behind hZ (by omega) S4 (fun a p1 hs τ5 S5 G5 hle => ?_) (fun q hs τ5 a w => h0 q (by unfold pCm; rw [if_pos h2, if_neg n33, hs]) τ5 a (w.tr (m0 := m) H4 (fun _ z => z) (by omega) (Nat.le_refl _)))
      obtain ⟨w1, w2, w3, w4⟩ := nd_keep S4 G5 hv (fun z => z)
      refine ⟨w1, ?_⟩
      obtain ⟨S6, G6⟩ := S5.nwl (k := 11) (x := Int64.ofInt a) hv
      have g : ∀ x, x ≠ 9 → τ5.i v x = τ1.i v x := fun x hx => by
        rw [w2, wi_ne (by omega), z2]
      refine go _ p1 (spE (vsN t vs) (nmS t n p) p) (spV (vsN t vs) (nmS t n p)) a (by omega) (S6.wk (by omega) (by omega)) ((H4.tr G5 (fun _ z => z.elim) (Nat.le_refl _)).tr G6 (fun j hj => by omega) (Nat.le_refl _)) (by show τ5.i v 0 = _; rw [g 0 (by decide)]; exact q0) (by show τ5.i v 9 = _; rw [w2, wi_at]) (by show τ5.i v 10 = _; rw [g 10 (by decide)]; exact q10) (up_same _ _ _ _) ?_ ?_ ?_
      · show τ5.r v 5 = _
        rw [w4]
        show τ3.r v 5 = _
        rw [z4]
        exact q5
      · show τ5.r v 6 = _
        rw [w4]
        show τ3.r v 6 = _
        rw [z4]
        exact q6
      · unfold pCm
        rw [if_pos h2, if_neg n33, hs]
end CMPT

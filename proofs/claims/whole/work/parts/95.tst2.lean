/-! THE REFERENCE'S READER: tests -/
def FolT (t : Nat → Int32) (n N : Nat) (env : Env) (B0 : Int32) (f : Pf) (o : Nat) (call : Sg → kS → Prop) : Prop :=
  ∀ (σ : Sg) (p c k : Nat) (vs : List (Nat × Nat)) (es : Evs) (m : Nat) (lst : List Nat) (cap u : Nat) (K : kS), RS t n N env (B0, Int32.ofNat k, Rf.ptr N) σ p c o vs es m lst cap u → u + 2 ≤ 23000 →
  (∀ p' k' es' x, f (vsN t vs) p k = .inr (p', k', es', x) → ∀ τ m' lst' cap' r, RS t n N env (B0, Int32.ofNat k', Rf.ptr N) τ p' c o vs (es ++ es') m' lst' cap' u → RF N vs.length σ τ lst cap lst' cap' (fun i => m ≤ i) → m ≤ m' → p ≤ p' → TsN τ (Rg lst' m m') x r → r ≠ Rf.nul → K (.inl (some (rv r))) τ) →
  (∀ q, f (vsN t vs) p k = .inl q → ∀ τ a, WR n N vs.length σ lst m cap τ a q → K (.inr ("DispatchHouseModel$Wrong", a)) τ) → call σ K
section TST2
variable {Z : zT} {d : Nat} {t : Nat → Int32} {n N : Nat} {env : Env} {B : Int32 × Int32 × Rf} {B0 : Int32} {σ τ : Sg} {p c o k : Nat} {vs : List (Nat × Nat)} {es : Evs} {m : Nat} {lst : List Nat} {cap u : Nat} {K : kS} {q l w : Nat}
/-- a Node's long written -/
theorem RS.nwl (S : RS t n N env B σ p c o vs es m lst cap u) {i v k : Nat} {x : Int64} (hv : lst[i]? = some v) : RS t n N env B (σ.wl v k x) p c o vs es m lst cap u ∧ RF N vs.length σ (σ.wl v k x) lst cap lst cap (fun j => j = i) := by
  have hv2 := S.ls.2.2.2.1 v (List.mem_of_getElem? hv)
  have hge := nd_ge S.fx hv2
  obtain ⟨b1, b2, b3, b4, b5⟩ := S.bd
  refine ⟨S.upd (τ := σ.wl v k x) S.fx rfl (fun a _ _ _ => rfl) (fun j _ => rfl) rfl rfl (fun b hb => rfl) ?_ (S.vr.mono rfl (fun j _ => rfl)) S.vo S.op S.ct (S.rl.mono rfl rfl rfl) S.cc ⟨b4, b5⟩, ?_⟩
  · obtain ⟨h1, h2, h3, h4, h5, h6⟩ := S.cur
    exact ⟨h1, h2, h3, h4, h5, h6⟩
  · exact ⟨⟨[], (List.append_nil _).symm, fun v hv => (by cases hv), RmL.refl _ _⟩, fun a _ h1 _ _ _ h2 => ⟨rfl, up_row (f := σ.l) (fun z => h2 i (z ▸ hv) rfl), fun _ => rfl⟩, fun j _ => rfl, up_row (f := σ.l) (by omega), fun j _ => rfl, fun j _ => rfl, Or.inl rfl⟩
theorem rs_counts (hd : 2 ≤ d) (hw : w ≤ 8192) (S : RS t n N env (B0, Int32.ofNat k, Rf.ptr N) σ p c o vs es m lst cap u) (h : ∀ τ, RS t n N env (B0, Int32.ofNat (k + 1), Rf.ptr N) τ p c o vs (es ++ ctE k w) m lst cap u → RF N vs.length σ τ lst cap lst cap (fun _ => False) → K (.inl none) τ) : B_X23_counts_0 Z d σ (Int32.ofNat w) K := by
  obtain ⟨d, rfl⟩ : ∃ e, d = e + 1 := ⟨d - 1, by omega⟩
  have w1 : ∀ {σ : Sg} {es : Evs}, RS t n N env (B0, Int32.ofNat k, Rf.ptr N) σ p c o vs es m lst cap u → RS t n N env (B0, Int32.ofNat (k + 1), Rf.ptr N) (σ.wi 0 22 (σ.i 0 22 + 1)) p c o vs es m lst cap u ∧ RF N vs.length σ (σ.wi 0 22 (σ.i 0 22 + 1)) lst cap lst cap (fun _ => False) := by
    intro σ es S
    obtain ⟨b1, b2, b3, b4, b5⟩ := S.bd
    have e : ∀ j, j ≠ 22 → (σ.wi 0 22 (σ.i 0 22 + 1)).i 0 j = σ.i 0 j := fun j hj => wi_ne (by omega)
    refine ⟨?_, S.w0 (by decide)⟩
    have S' : RS t n N env (B0, Int32.ofNat (k + 1), Rf.ptr N) (σ.wi 0 22 (σ.i 0 22 + 1)) p c o vs es m lst cap u := by
      obtain ⟨s1, s2, s3, s4, s5, s6, s7, s8, s9, s10, s11, s12, s13, s14⟩ := S
      have hi : ∀ a, a ≠ 0 → (σ.wi 0 22 (σ.i 0 22 + 1)).i a = σ.i a := fun a ha => wi_row ha
      refine ⟨s1, ⟨s2.1, (e 15 (by decide)).trans s2.2.1, fun j hj => by rw [hi 37 (by decide)]; exact s2.2.2.1 j hj, s2.2.2.2⟩, s3.w0 (by decide) |> fun z => z, s4.mono (fun a a1 a2 => hi a (by omega)) (fun j hj => e j (by omega)), s5.mono (e 32 (by decide)) (fun j _ => by rw [hi 54 (by decide)]), s6, (e 20 (by decide)).trans s7, (e 21 (by decide)).trans s8, ⟨s9.1.mono (e 23 (by decide)) (e 24 (by decide)) (e 27 (by decide)), ?_⟩, s10, s11, s12.mono (fun _ _ z => z) (by rw [hi _ (by omega)]) rfl (fun _ _ => rfl), ?_, s14⟩
      · rw [wi_at, s9.2]
        exact oN_1 k
      · rw [hi N (by omega)]
        exact s13
    exact S'
  unfold ctE at h
  refine S_X23_counts_0 S.fx ⟨fun q => ?_, fun q => ?_⟩
  · rw [S.cc] at q
    rw [if_neg q, List.append_nil] at h
    obtain ⟨g1, g2⟩ := w1 S
    exact h _ g1 g2
  · rw [S.cc] at q
    rw [if_pos q] at h
    refine rs_breaks (r := 7) (by omega) hw (by decide) S (fun τ S2 G2 => ?_)
    obtain ⟨g1, g2⟩ := w1 S2
    exact h _ g1 (G2.tr g2 (fun _ z => z) (Nat.le_refl _))
/-- spec(): which variable -/
theorem rs_spec (hd : 2 ≤ d) (hw : w ≤ 8192) (hq : q + l ≤ 8192) (hl : l ≤ 16) (S : RS t n N env B σ p c o vs es m lst cap u) (h : ∀ τ, RS t n N env B τ p c o vs (es ++ spE (vsN t vs) (txN t q l) w) m lst cap u → RF N vs.length σ τ lst cap lst cap (fun _ => False) → K (.inl (some (.int (Int32.ofInt (spV (vsN t vs) (txN t q l)))))) τ) : B_X23_spec_0 Z d σ (Int32.ofNat (32 * q + l)) (Int32.ofNat w) K := by
  obtain ⟨d, rfl⟩ : ∃ e, d = e + 1 := ⟨d - 1, by omega⟩
  have hlen : (vsN t vs).length = vs.length := vsN_len t vs
  have hvo := S.vo
  have lp : ∀ k, k ≤ vs.length → lstI (vsN t vs) (txN t q l) = lstK (vsN t vs) (txN t q l) k → B_X23_spec_7 Z (d + 1) σ (Int32.ofNat (32 * q + l)) (Int32.ofNat w) (Int32.ofNat k - 1) K := by
    intro k
    induction k with
    | zero =>
      intro _ he
      have he : lstI (vsN t vs) (txN t q l) = none := he
      unfold spE spV at h
      rw [he] at h
      refine S_X23_spec_7 S.fx ⟨fun _ => ?_, fun z => absurd (by decide) z⟩
      refine rs_breaks (r := 3) (by omega) hw (by decide) S (fun τ S2 G2 => h τ ?_ G2)
      rw [if_pos rfl]
      exact S2
    | succ k ih =>
      intro hk he
      obtain ⟨x, hx⟩ : ∃ x, vs[k]? = some x := ⟨_, List.getElem?_eq_getElem (by omega)⟩
      obtain ⟨x1, x2, x3⟩ := S.vr.2 k x hx
      have hnm : (vsN t vs)[k]? = some (txN t x.1 x.2) := by
        unfold vsN
        rw [List.getElem?_map, hx]
        rfl
      rw [oN_p1 (by omega), Nat.add_sub_cancel]
      refine S_X23_spec_7 S.fx ⟨fun z => ?_, fun _ => ⟨ib_oN (by omega) (by decide), ?_⟩⟩
      · have := (oN_lt (b := 0) (by omega) (by omega)).mp z
        omega
      · rw [oN_t (by omega), x1]
        obtain ⟨d, rfl⟩ : ∃ e, d = e + 1 := ⟨d - 1, by omega⟩
        rw [lstK_succ] at he
        refine rf_isSame S.fx S.tx.2.2.1 x2 x3 hq hl (fun hs => ⟨fun z => absurd z (by decide), fun _ => ?_⟩) (fun hs => ⟨fun _ => ?_, fun z => absurd rfl z⟩)
        · rw [if_pos (by rw [hnm, hs])] at he
          unfold spE spV at h
          rw [he] at h
          refine h σ ?_ (RF.refl _ _ _ _ _ _)
          rw [if_neg (by intro z; cases z), List.append_nil]
          exact S
        · rw [if_neg (by rw [hnm]; exact fun z => hs (Option.some.inj z))] at he
          rw [← Int32.sub_eq_add_neg]
          exact ih (by omega) he
  refine S_X23_spec_0 S.fx ?_
  rw [S.vr.1]
  refine lp vs.length (Nat.le_refl _) ?_
  unfold lstI lstK
  rw [hlen]
theorem i64_32 (x : Int32) : Int32.toInt64 x = Int64.ofInt x.toInt := by
  rw [← Int64.toInt_inj, Int32.toInt_toInt64]
  have h1 := x.toInt_lt
  have h2 := x.le_toInt
  rw [Int64.toInt_ofInt_of_le (by omega) (by omega)]
theorem rs_b20 (hZ : ZK Z) (hd : 17 ≤ d) (S : RS t n N env B σ p c o vs es m lst cap u) (hty : tyS t n p = 9 ∨ tyS t n p = 10) (h1 : tyS t n (nxS t n p) = 3 → ∀ τ, RS t n N env B τ (nxS t n (nxS t n p)) c o vs es m lst cap (u - 2) → RF N vs.length σ τ lst cap lst cap (fun _ => False) → K (.inl (some (.long (Int64.ofInt (if tyS t n p = 10 then -(vaS t n (nxS t n p)).toInt else (vaS t n (nxS t n p)).toInt))))) τ) (h0 : tyS t n (nxS t n p) ≠ 3 → ∀ τ a, WR n N vs.length σ lst m cap τ a (nxS t n p) → K (.inr ("DispatchHouseModel$Wrong", a)) τ) : B_X23_behind_20 Z d σ K := by
  obtain ⟨d, rfl⟩ : ∃ e, d = e + 1 := ⟨d - 1, by omega⟩
  have hp : p < n := ty_pos (t := t) (by omega)
  have hu := S.bd
  have go : ∀ v3 : Int32, ((v3 = 0 ∧ tyS t n p ≠ 10) ∨ (¬ v3 = 0 ∧ tyS t n p = 10)) → B_X23_next_0 Z d σ (yN K fun τ4 => ((τ4.i 0 17) = 3 → B_X23_next_0 Z d τ4 (yN K fun τ6 => (v3 = 0 → K (.inl (some (.long ((Int32.toInt64 (τ4.i 0 19)))))) τ6) ∧ (¬ v3 = 0 → K (.inl (some (.long ((-((Int32.toInt64 (τ4.i 0 19)))))))) τ6))) ∧ (¬ (τ4.i 0 17) = 3 → B_X23_no_0 Z d τ4 (yR K fun v10 τ8 => ∃ x12, aT τ8 v10 x12 ∧ K (.inr (x12, v10)) τ8))) := by
    intro v3 hv3
    refine rs_next hZ (by omega) S hp (fun τ S2 G2 => ⟨fun h3 => ?_, fun h3 => ?_⟩)
    · have hy := (ty_lo (k := 3) (Or.inr rfl) S2.cur).mp h3
      have hp2 := ty_dg t n _ hy
      rw [S2.cur.2.2.2.2.1 hp2.1 hp2.2, i64_32]
      have hh := h1 hy
      obtain ⟨b1, b2, b3, b4, b5⟩ := S2.bd
      refine rs_next hZ (by omega) S2 hp2.1 (fun υ S3 G3 => ⟨fun z => ?_, fun z => ?_⟩)
      · rcases hv3 with ⟨y, y2⟩ | ⟨y, _⟩
        · rw [if_neg y2] at hh
          exact hh υ (S3.wk (by omega) (by omega)) (G2.tr G3 (fun _ z => z) (Nat.le_refl _))
        · exact absurd z y
      · rcases hv3 with ⟨y, _⟩ | ⟨y, y2⟩
        · exact absurd y z
        · rw [if_pos y2, Int64.ofInt_neg] at hh
          exact hh υ (S3.wk (by omega) (by omega)) (G2.tr G3 (fun _ z => z) (Nat.le_refl _))
    · obtain ⟨d, rfl⟩ : ∃ e, d = e + 2 := ⟨d - 2, by omega⟩
      exact rf_no hZ (by omega) S2.fx fun υ a f1 f2 => ⟨_, wrg_aT f2, h0 (fun z => h3 ((ty_lo (k := 3) (Or.inr rfl) S2.cur).mpr z)) υ a ((S2.wr f1 f2).tr G2 (fun _ z => z.elim) (Nat.le_refl _) (Nat.le_refl _))⟩
  exact S_X23_behind_20 S.fx (rs_is (y := 10) (by decide) (by omega) S (fun y => go 1 (Or.inr ⟨by decide, y⟩)) (fun y => go 0 (Or.inl ⟨rfl, y⟩)))
/-- behind(): [+ NUMBER | - NUMBER] -/
theorem rs_behind (hZ : ZK Z) (hd : 18 ≤ d) (S : RS t n N env B σ p c o vs es m lst cap u) (h1 : ∀ v p', pBh t n p = .inr (v, p') → ∀ τ, RS t n N env B τ p' c o vs es m lst cap u → RF N vs.length σ τ lst cap lst cap (fun _ => False) → p ≤ p' → K (.inl (some (.long (Int64.ofInt v)))) τ) (h0 : ∀ x, pBh t n p = .inl x → ∀ τ a, WR n N vs.length σ lst m cap τ a x → K (.inr ("DispatchHouseModel$Wrong", a)) τ) : B_X23_behind_0 Z d σ K := by
  obtain ⟨d, rfl⟩ : ∃ e, d = e + 1 := ⟨d - 1, by omega⟩
  unfold pBh at h1 h0
  obtain ⟨b1, b2, b3, b4, b5⟩ := S.bd
  have go : tyS t n p = 9 ∨ tyS t n p = 10 → B_X23_behind_20 Z (d + 1) σ K := by
    intro hty
    rw [if_pos hty] at h1 h0
    refine rs_b20 hZ (by omega) S hty (fun h3 τ S2 G2 => ?_) (fun h3 τ a w => ?_)
    · rw [if_pos h3] at h1
      have g1 := nxS_gt (t := t) (n := n) (p := p) (ty_pos (t := t) (by omega))
      have g2 := nxS_gt (t := t) (n := n) (p := nxS t n p) (ty_pos (t := t) (by omega))
      exact h1 _ _ rfl τ (S2.wk (by omega) (by omega)) G2 (by omega)
    · rw [if_neg h3] at h0
      exact h0 _ rfl τ a w
  refine S_X23_behind_0 S.fx (rs_is (y := 9) (by decide) (by omega) S (fun y => ⟨fun _ => go (Or.inl y), fun z => absurd z (by decide)⟩) (fun y9 => ⟨fun z => absurd rfl z, fun _ => rs_is (y := 10) (by decide) (by omega) S (fun y => ⟨fun _ => go (Or.inr y), fun z => absurd z (by decide)⟩) (fun y10 => ⟨fun z => absurd rfl z, fun _ => ?_⟩)⟩))
  rw [if_neg (by omega)] at h1
  exact h1 _ _ rfl σ S (RF.refl _ _ _ _ _ _) (Nat.le_refl _)
end TST2

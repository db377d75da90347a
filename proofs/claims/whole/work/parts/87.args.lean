/-! THE REFERENCE'S READER: signed(), under(), arguments() -/
/-- a run follows a reader -/
def Fol (t : Nat → Int32) (n N : Nat) (env : Env) (B : Int32 × Int32) (f : Pf) (o : Nat) (call : Sg → kS → Prop) : Prop :=
  ∀ (σ : Sg) (p c : Nat) (vs : List (Nat × Nat)) (es : Evs) (m : Nat) (lst : List Nat) (cap u : Nat) (K : kS), RS t n N env (B.1, B.2, Rf.ptr N) σ p c o vs es m lst cap u → u + 2 ≤ 23000 →
  (∀ p' c' es' x, f (vsN t vs) p c = .inr (p', c', es', x) → ∀ τ m' lst' cap' r, RS t n N env (B.1, B.2, Rf.ptr N) τ p' c' o vs (es ++ es') m' lst' cap' u → RF N vs.length σ τ lst cap lst' cap' (fun i => m ≤ i) → m ≤ m' → p ≤ p' → TrN τ (Rg lst' m m') x r → r ≠ Rf.nul → K (.inl (some (rv r))) τ) →
  (∀ q, f (vsN t vs) p c = .inl q → ∀ τ a, WR n N vs.length σ lst m cap τ a q → K (.inr ("DispatchHouseModel$Wrong", a)) τ) → call σ K
section ARGS
variable {Z : zT} {d : Nat} {t : Nat → Int32} {n N : Nat} {env : Env} {B : Int32 × Int32 × Rf} {B2 : Int32 × Int32} {σ τ : Sg} {p c o : Nat} {vs : List (Nat × Nat)} {es : Evs} {m : Nat} {lst : List Nat} {cap u : Nat} {K : kS} {q l : Nat}
theorem rs_sg15 {b : Int32} (hZ : ZK Z) (hd : 16 ≤ d) (S : RS t n N env B σ p c o vs es m lst cap u) (h1 : tyS t n p = 3 → ∀ τ, RS t n N env B τ (nxS t n p) c o vs es m lst cap (u - 2) → RF N vs.length σ τ lst cap lst cap (fun _ => False) → K (.inl (some (.int (if b = 0 then vaS t n p else -(vaS t n p))))) τ) (h0 : tyS t n p ≠ 3 → ∀ τ a, WR n N vs.length σ lst m cap τ a p → K (.inr ("DispatchHouseModel$Wrong", a)) τ) : B_X23_signed_15 Z d σ b K := by
  obtain ⟨d, rfl⟩ : ∃ e, d = e + 1 := ⟨d - 1, by omega⟩
  refine S_X23_signed_15 S.fx ⟨fun h => ?_, fun h => ?_⟩
  · have hy := (ty_lo (k := 3) (Or.inr rfl) S.cur).mp h
    have hp : p < n ∧ ¬ isLet (t p) := by
      rcases ty_or t n p with q | q | q | q | ⟨_, _, _, q⟩ | ⟨_, _, _, _, q⟩
      · omega
      · omega
      · omega
      · exact q.2.2
      · rcases q with q | ⟨q, q1, q2, q3⟩
        · omega
        · have := (mkL2_c q q1).2.1
          omega
      · rcases q with q | ⟨q, q1, q2, q3⟩
        · omega
        · have := (wdL_c q q1).2.1
          omega
    rw [S.cur.2.2.2.2.1 hp.1 hp.2]
    refine rs_next hZ (by omega) S hp.1 (fun τ S2 G => ⟨fun z => ?_, fun z => ?_⟩)
    · have := h1 hy τ S2 G
      rw [if_pos z] at this
      exact this
    · have := h1 hy τ S2 G
      rw [if_neg z] at this
      exact this
  · obtain ⟨d, rfl⟩ : ∃ e, d = e + 2 := ⟨d - 2, by omega⟩
    exact rf_no hZ (by omega) S.fx fun τ a f1 f2 => ⟨_, wrg_aT f2, h0 (fun z => h ((ty_lo (k := 3) (Or.inr rfl) S.cur).mpr z)) τ a (S.wr f1 f2)⟩
theorem rs_signed (hZ : ZK Z) (hd : 17 ≤ d) (S : RS t n N env B σ p c o vs es m lst cap u) (h1 : ∀ v p', pSg t n p = .inr (v, p') → ∀ τ, RS t n N env B τ p' c o vs es m lst cap (u - 2) → RF N vs.length σ τ lst cap lst cap (fun _ => False) → K (.inl (some (.int (Int32.ofInt v)))) τ) (h0 : ∀ q, pSg t n p = .inl q → ∀ τ a, WR n N vs.length σ lst m cap τ a q → K (.inr ("DispatchHouseModel$Wrong", a)) τ) : B_X23_signed_0 Z d σ K := by
  obtain ⟨d, rfl⟩ : ∃ e, d = e + 1 := ⟨d - 1, by omega⟩
  unfold pSg at h1 h0
  obtain ⟨b1, b2, b3, b4, b5⟩ := S.bd
  refine S_X23_signed_0 S.fx (rs_is (y := 10) (by decide) (by omega) S (fun hy => ⟨fun z => absurd z (by decide), fun _ => ?_⟩) (fun hy => ⟨fun _ => ?_, fun z => absurd rfl z⟩))
  · have hp : p < n := ty_pos (t := t) (by omega)
    refine rs_next hZ (by omega) S hp (fun τ S2 G => ?_)
    rw [if_pos hy] at h1 h0
    refine rs_sg15 hZ (by omega) S2 (fun h3 υ S3 G2 => ?_) (fun h3 υ a w => ?_)
    · rw [if_pos h3] at h1
      have := h1 _ _ rfl υ (S3.wk (by omega) (by omega)) (G.tr G2 (fun _ z => z) (Nat.le_refl _))
      rw [Int32.ofInt_neg, Int32.ofInt_toInt] at this
      rw [if_neg (by decide)]
      exact this
    · rw [if_neg h3] at h0
      exact h0 _ rfl υ a (w.tr G (fun _ z => z.elim) (Nat.le_refl _) (Nat.le_refl _))
  · rw [if_neg hy] at h1 h0
    refine rs_sg15 hZ (by omega) S (fun h3 υ S3 G2 => ?_) (fun h3 υ a w => ?_)
    · rw [if_pos h3] at h1
      have := h1 _ _ rfl υ S3 G2
      rw [Int32.ofInt_toInt] at this
      rw [if_pos rfl]
      exact this
    · rw [if_neg h3] at h0
      exact h0 _ rfl υ a w
theorem vsN_snoc (t : Nat → Int32) (vs : List (Nat × Nat)) (q : Nat × Nat) : vsN t (vs ++ [q]) = vsN t vs ++ [txN t q.1 q.2] := by
  unfold vsN
  rw [List.map_append]
  rfl
/-- under(): a variable more -/
theorem rs_under {f : Pf} (He : Fol t n N env B2 f o (B_X23_e_0 Z d)) (S : RS t n N env (B2.1, B2.2, Rf.ptr N) σ p c o vs es m lst cap u) (hu : u + 2 ≤ 23000) (hvo : vs.length + 1 ≤ o + 3) (hq : q + l ≤ 8192) (hl : l ≤ 16) {i v : Nat} (hi : i < m) (hv : lst[i]? = some v)
    (h1 : ∀ p' c' es' x, f (vsN t vs ++ [txN t q l]) p c = .inr (p', c', es', x) → ∀ τ m' lst' cap' r, RS t n N env (B2.1, B2.2, Rf.ptr N) τ p' c' o vs (es ++ es') m' lst' cap' u → RF N vs.length σ τ lst cap lst' cap' (fun j => j = i ∨ m ≤ j) → m ≤ m' → p ≤ p' → TrN τ (Rg lst' m m') x r → r ≠ Rf.nul → lst'[i]? = some v → τ.sh[v]? = some (Sh.obj 21) → τ.i v 2 = Int32.ofNat vs.length → (∀ k, k ≠ 2 → τ.i v k = σ.i v k) → τ.r v = σ.r v → K (.inl (some (rv r))) τ)
    (h0 : ∀ q', f (vsN t vs ++ [txN t q l]) p c = .inl q' → ∀ τ a, WR n N vs.length σ lst i cap τ a q' → K (.inr ("DispatchHouseModel$Wrong", a)) τ) : B_X23_under_0 Z (d + 1) σ (Rf.ptr v) (Int32.ofNat (32 * q + l)) K := by
  have hv2 := S.ls.2.2.2.1 v (List.mem_of_getElem? hv)
  have hge := nd_ge S.fx hv2
  have hso := S.vo
  have hm := S.bd.1
  obtain ⟨T, G1⟩ := S.nwi (k := 2) (x := σ.i 0 32) hv
  refine S_X23_under_0 S.fx ⟨v, rfl, hv2, ?_⟩
  have e32 : (σ.wi v 2 (σ.i 0 32)).i 0 32 = Int32.ofNat vs.length := (wi_ne (by omega)).trans S.vr.1
  rw [e32, oN_t (by omega), oN_1]
  refine ⟨ib_oN (by omega) (by decide), ?_⟩
  have hx : ∀ a k, ¬ (a = 54 ∧ k = vs.length) → ¬ (a = 0 ∧ k = 32) → (((σ.wi v 2 (σ.i 0 32)).wi 54 vs.length (Int32.ofNat (32 * q + l))).wi 0 32 (Int32.ofNat (vs.length + 1))).i a k = (σ.wi v 2 (σ.i 0 32)).i a k := fun a k z1 z2 => (wi_ne z2).trans (wi_ne z1)
  have hE : ∀ a k, ¬ (a = 54 ∧ k = vs.length) → ¬ (a = 0 ∧ k = 32) → ¬ (a = v ∧ k = 2) → (((σ.wi v 2 (σ.i 0 32)).wi 54 vs.length (Int32.ofNat (32 * q + l))).wi 0 32 (Int32.ofNat (vs.length + 1))).i a k = σ.i a k := fun a k z1 z2 z3 => (hx a k z1 z2).trans (wi_ne z3)
  have hV : VrR (vs ++ [(q, l)]) (((σ.wi v 2 (σ.i 0 32)).wi 54 vs.length (Int32.ofNat (32 * q + l))).wi 0 32 (Int32.ofNat (vs.length + 1))) := by
    refine ⟨by rw [List.length_append]; exact wi_at _ _ _ _, fun k x hk => ?_⟩
    by_cases z : k < vs.length
    · rw [List.getElem?_append_left z] at hk
      rw [hx 54 k (by omega) (by omega)]
      exact T.vr.2 k x hk
    · rw [List.getElem?_append_right (by omega)] at hk
      have hk0 : k - vs.length = 0 := by
        have := (List.getElem?_eq_some_iff.mp hk).1
        have : k - vs.length < 1 := this
        omega
      rw [hk0] at hk
      cases hk
      have : k = vs.length := by omega
      subst this
      exact ⟨(wi_ne (by omega)).trans (wi_at _ _ _ _), hq, hl⟩
  obtain ⟨b1, b2, b3, b4, b5⟩ := S.bd
  have S3 : RS t n N env (B2.1, B2.2, Rf.ptr N) (((σ.wi v 2 (σ.i 0 32)).wi 54 vs.length (Int32.ofNat (32 * q + l))).wi 0 32 (Int32.ofNat (vs.length + 1))) p c o (vs ++ [(q, l)]) es m lst cap u := by
    refine T.upd (τ := ((σ.wi v 2 (σ.i 0 32)).wi 54 vs.length (Int32.ofNat (32 * q + l))).wi 0 32 (Int32.ofNat (vs.length + 1))) T.fx rfl (fun a h1 h2 h3 => funext fun k => hx a k (by omega) (by omega)) (fun k hk => hx 0 k (by omega) (fun z => hk (by rw [z.2]; decide))) rfl rfl (fun _ _ => rfl) ?_ hV ⟨by rw [List.length_append]; exact hvo, hso.2⟩ ((hx 0 20 (by omega) (by omega)).trans T.op) ((hx 0 21 (by omega) (by omega)).trans T.ct) (T.rl.mono (hx 0 23 (by omega) (by omega)) (hx 0 24 (by omega) (by omega)) (hx 0 27 (by omega) (by omega))) ((hx 0 22 (by omega) (by omega)).trans T.cc) ⟨b4, b5⟩
    obtain ⟨w1, w2, w3, w4, w5, w6⟩ := T.cur
    exact ⟨w1, (hx 0 18 (by omega) (by omega)).trans w2, (hx 0 16 (by omega) (by omega)).trans w3, (hx 0 17 (by omega) (by omega)).trans w4, fun a b => (hx 0 19 (by omega) (by omega)).trans (w5 a b), fun a b => ⟨(hx 0 26 (by omega) (by omega)).trans (w6 a b).1, (w6 a b).2⟩⟩
  have G3 : RF N vs.length σ (((σ.wi v 2 (σ.i 0 32)).wi 54 vs.length (Int32.ofNat (32 * q + l))).wi 0 32 (Int32.ofNat (vs.length + 1))) lst cap lst cap (fun j => j = i ∨ m ≤ j) := by
    refine ⟨⟨[], (List.append_nil _).symm, fun v hv => (by cases hv), RmL.refl _ _⟩, fun a _ h1 h2 _ _ h3 => ⟨funext fun k => hE a k (by omega) (by omega) (fun z => h3 i (z.1 ▸ hv) (Or.inl rfl)), rfl, fun _ => rfl⟩, fun k hk => hE 0 k (by omega) (fun z => hk (by rw [z.2]; decide)) (by omega), rfl, fun _ _ => rfl, fun k hk => hE 54 k (by omega) (by omega) (by omega), Or.inl rfl⟩
  have ev : vsN t (vs ++ [(q, l)]) = vsN t vs ++ [txN t q l] := vsN_snoc t vs (q, l)
  refine He _ p c (vs ++ [(q, l)]) es m lst cap u _ S3 hu (fun p' c' es' x hf τ m' lst' cap' r Sτ Gτ hmm hpp T2 hr => Or.inl ⟨r, rfl, ?_⟩) (fun q' hf τ a w => Or.inr ⟨_, rfl, ?_⟩)
  · rw [ev] at hf
    have hvl : (vs ++ [(q, l)]).length = vs.length + 1 := by
      rw [List.length_append]
      rfl
    have hlv := Sτ.vr
    obtain ⟨g1, g2, g3, g4⟩ := nd_keep S3 Gτ hv (by omega)
    have hpre := Gτ.pre i v hv
    have eτ : τ.i 0 32 - 1 = Int32.ofNat vs.length := by
      rw [hlv.1, hvl, oN_p1 (by omega), Nat.add_sub_cancel]
    rw [eτ]
    obtain ⟨c1, c2, c3, c4, c5⟩ := Sτ.bd
    have e0 : ∀ k, k ≠ 32 → (τ.wi 0 32 (Int32.ofNat vs.length)).i 0 k = τ.i 0 k := fun k hk => wi_ne (by omega)
    have Sf : RS t n N env (B2.1, B2.2, Rf.ptr N) (τ.wi 0 32 (Int32.ofNat vs.length)) p' c' o vs (es ++ es') m' lst' cap' u := by
      refine Sτ.upd (τ := τ.wi 0 32 (Int32.ofNat vs.length)) Sτ.fx rfl (fun a h1 _ _ => wi_row (by omega)) (fun k hk => e0 k (fun z => hk (by rw [z]; decide))) rfl rfl (fun _ _ => rfl) (Sτ.cur.w0 (by decide)) ⟨wi_at _ _ _ _, fun k x hk => ?_⟩ ⟨by omega, hso.2⟩ ((e0 20 (by decide)).trans Sτ.op) ((e0 21 (by decide)).trans Sτ.ct) (Sτ.rl.mono (e0 23 (by decide)) (e0 24 (by decide)) (e0 27 (by decide))) ((e0 22 (by decide)).trans Sτ.cc) ⟨c4, c5⟩
      rw [wi_ne (by omega)]
      exact hlv.2 k x (by rw [List.getElem?_append_left (List.getElem?_eq_some_iff.mp hk).1]; exact hk)
    have Gf : RF N vs.length τ (τ.wi 0 32 (Int32.ofNat vs.length)) lst' cap' lst' cap' (fun _ => False) := ⟨⟨[], (List.append_nil _).symm, fun v hv => (by cases hv), RmL.refl _ _⟩, fun a _ h1 _ _ _ _ => ⟨wi_row h1, rfl, fun _ => rfl⟩, fun k hk => e0 k (fun z => hk (by rw [z]; decide)), rfl, fun _ _ => rfl, fun k _ => wi_ne (by omega), Or.inl rfl⟩
    have hvi : ∀ k, (τ.wi 0 32 (Int32.ofNat vs.length)).i v k = τ.i v k := fun k => wi_ne (by omega)
    refine h1 p' c' es' x hf _ m' lst' cap' r Sf ((G3.tr Gτ (fun j hj => Or.inr hj) (by omega)).tr Gf (fun _ z => z.elim) (Nat.le_refl _)) hmm hpp (T2.fr Sτ Gf (fun _ _ _ z => z)) hr hpre g1 ?_ (fun k hk => ?_) ?_
    · rw [hvi, g2, hx v 2 (by omega) (by omega), wi_at]
      exact S.vr.1
    · rw [hvi, g2]
      exact hE v k (by omega) (by omega) (by omega)
    · exact g4
  · rw [ev] at hf
    refine h0 q' hf τ a (w.tr (m0 := i) G3 (fun j hj => by omega) (by omega) ?_)
    rw [List.length_append]
    omega
end ARGS

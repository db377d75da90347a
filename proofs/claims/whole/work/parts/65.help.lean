/-! THE REFERENCE'S READER: what it is made of -/
theorem zr22_0 {z5 z6 : Value} (h5 : z5 = .null ∨ z5 = .retAddr 5) (h6 : z6 = .null ∨ z6 = .retAddr 6) : ab_ev (hb_Gz (none, some z5, some z6) none) hb_GT 12 (mZR22_init, []) 0 [(0, .ref 0), (1, .null), (2, .null), (3, .int 0), (4, .int 0)] [] [.inr (.inr (23, [.null, .null, .null, .null, .null, .int 0, .int 0]))] (.inl none) [.inr (.inr (23, [.null, .null, .null, .null, .null, .int 0, .int 0]))] := by
  rcases h5 with rfl | rfl <;> rcases h6 with rfl | rfl <;> exact ⟨200, ab_eqX_ok (by decide +kernel)⟩
section HELP
variable {Z : zT} {d : Nat} {σ : Sg} {K : kS}
theorem rf_zr22 (hZ : ZK Z) (hd : 12 ≤ d) (F : FX ΦR σ.sh σ.r) (k : K (.inl none) (σ.al (Sh.obj 23))) : B_ZR22_init_0 Z d (σ.al (Sh.obj 23)) σ.sh.length Rf.nul Rf.nul 0 0 K := by
  obtain ⟨z4, z5, z6, L, xs, rfl, h4, h5, h6⟩ := hZ
  have e1 := ab_ev.ext (s' := hb_Xs (some z4, some z5, some z6)) (a' := hb_Xa (some (0, L, fun i => .int (xs i)))) (fun o ix v h => hb_xmono (Or.inl rfl) (Or.inr rfl) (Or.inr rfl) h) hb_amono (zr22_0 h5 h6)
  have e2 := (e1.up hd).behind (hb_pure h4 h5 h6) (conc σ)
  have e3 : conc σ ++ ([.inr (.inr (23, [.null, .null, .null, .null, .null, .int 0, .int 0]))] : List ab_E) = conc (σ.al (Sh.obj 23)) := by
    rw [conc_al]
    rfl
  refine ⟨.inl none, conc (σ.al (Sh.obj 23)), ?_, σ.al (Sh.obj 23), rfl, F.al hΦR, k⟩
  rw [← e3]
  have e4 : (conc σ).length + 0 = σ.sh.length := by rw [conc_len]; rfl
  have e5 : ([(0, .ref σ.sh.length), (1, rv Rf.nul), (2, rv Rf.nul), (3, .int 0), (4, .int 0)] : ab_L) = ab_rnL (fun k => (conc σ).length + k) [(0, .ref 0), (1, .null), (2, .null), (3, .int 0), (4, .int 0)] := by
    show _ = [(0, Value.ref ((conc σ).length + 0)), _, _, _, _]
    rw [e4]
    rfl
  rw [e5]
  exact e2
/-- the sign can't stand here: what is thrown -/
def Wrg (σ τ : Sg) (q : Nat) : Prop := q = σ.sh.length ∧ τ.sh = σ.sh ++ [Sh.obj 23] ∧ τ.i q 6 = σ.i 0 18 ∧ ∀ a, a < σ.sh.length → τ.i a = σ.i a ∧ τ.l a = σ.l a ∧ τ.r a = σ.r a
theorem sh_ge {sh : List Sh} {r : Nat → Nat → Rf} (F : FX ΦR sh r) : 3365 ≤ sh.length := by
  obtain ⟨⟨dyn, e⟩, -⟩ := F
  rw [e, List.length_append]
  have : ΦR.sh0.length = 3365 := by
    show sh0R.length = 3365
    decide +kernel
  omega
theorem rf_no (hZ : ZK Z) (hd : 12 ≤ d) (F : FX ΦR σ.sh σ.r) (hk : ∀ τ q, FX ΦR τ.sh τ.r → Wrg σ τ q → K (.inl (some (.ref q))) τ) : B_X23_no_0 Z (d + 2) σ K := by
  have hge := sh_ge F
  refine S_X23_no_0 (d := d + 1) F ?_
  have F1 : FX ΦR (σ.al (Sh.obj 23)).sh (σ.al (Sh.obj 23)).r := F.al hΦR
  refine S_X22_init_0 (d := d) F1 ?_
  refine rf_zr22 hZ hd F ⟨al_n, ?_⟩
  refine hk _ _ F1 ⟨rfl, rfl, ?_, fun a ha => ⟨?_, ?_, ?_⟩⟩
  · rw [wi_i, if_pos ⟨rfl, rfl⟩]
    show (if 0 = σ.sh.length then (0 : Int32) else σ.i 0 18) = _
    rw [if_neg (by omega)]
  · funext j
    rw [wi_i, if_neg (by omega)]
    exact if_neg (by omega)
  · funext j
    exact if_neg (by omega)
  · funext j
    exact if_neg (by omega)
theorem wrg_aT {τ : Sg} {q : Nat} (h : Wrg σ τ q) : aT τ q "DispatchHouseModel$Wrong" := by
  refine ⟨23, (vwCl[23]?).get (by decide +kernel), ?_, ?_, by decide +kernel⟩
  · rw [h.2.1, h.1, List.getElem?_append_right (Nat.le_refl _), Nat.sub_self]
    rfl
  · exact (Option.some_get _).symm
variable {t : Nat → Int32} {n p : Nat}
/-- is(c): a sign of that number -/
theorem rf_is {c : Int32} (F : FX ΦR σ.sh σ.r) (h1 : σ.i 0 17 = 4 ∧ σ.i 0 19 = c → K (.inl (some (.int 1))) σ) (h0 : ¬ (σ.i 0 17 = 4 ∧ σ.i 0 19 = c) → K (.inl (some (.int 0))) σ) : B_X23_is_0 Z (d + 1) σ c K :=
  S_X23_is_0 F ⟨fun q => h0 fun z => q z.1, fun q => ⟨fun z => h0 fun y => z y.2, fun z => h1 ⟨q, z⟩⟩⟩
/-- is(s): a word -/
theorem rf_isw (hZ : ZK Z) (hd : 12 ≤ d) {j : Nat} (hj : j ∈ stE) (F : FX ΦR σ.sh σ.r) (hw : σ.i 0 17 = 1 → ∃ i ∈ stE, σ.r 0 25 = Rf.old i) (h1 : σ.i 0 17 = 1 ∧ σ.r 0 25 = Rf.old j → K (.inl (some (.int 1))) σ) (h0 : ¬ (σ.i 0 17 = 1 ∧ σ.r 0 25 = Rf.old j) → K (.inl (some (.int 0))) σ) : B_X23_is__0 Z (d + 1) σ (Rf.old j) K := by
  refine S_X23_is__0 F ⟨fun q => h0 fun z => q z.1, fun q => ?_⟩
  obtain ⟨i, hi, e⟩ := hw q
  refine ⟨i, e, (stJ_xt i (stE_J i hi)).1, ?_⟩
  refine st_eq hZ (List.mem_cons_of_mem _ hi) hj hd F ?_
  by_cases g : i = j
  · subst g
    rw [if_pos rfl]
    exact ⟨fun z => absurd z (by decide), fun _ => h1 ⟨q, e⟩⟩
  · rw [if_neg g]
    refine ⟨fun _ => h0 fun z => ?_, fun z => absurd rfl z⟩
    rw [e] at z
    have := z.2
    cases this
    exact g rfl
theorem cur_w (hC : Cur t n p σ) (h : σ.i 0 17 = 1) : ∃ i ∈ stE, σ.r 0 25 = Rf.old i := by
  obtain ⟨c1, c2, c3, c4, c5, c6⟩ := hC
  rw [c4] at h
  unfold soS at h
  split at h
  · rename_i hp
    split at h
    · rename_i hL
      split at h
      · rename_i h16
        split at h
        · cases h
        · rename_i hw
          rw [(c6 hp hL).2 h16]
          rcases wd_J t p (lnS t n p) with ⟨j, hj, e, -⟩ | ⟨e, -⟩
          · exact ⟨j, hj, e⟩
          · exact absurd e hw
      · cases h
    · split at h
      · split at h <;> cases h
      · split at h <;> cases h
  · cases h
/-- want(c) -/
theorem rf_want {c : Int32} (hZ : ZK Z) (hd : 12 ≤ d) (F : FX ΦR σ.sh σ.r) (hT : TX t n σ) (hC : Cur t n p σ) (h1 : σ.i 0 17 = 4 ∧ σ.i 0 19 = c → ∀ τ, FX ΦR τ.sh τ.r → LX σ τ → Cur t n (nxS t n p) τ → K (.inl none) τ) (h0 : ¬ (σ.i 0 17 = 4 ∧ σ.i 0 19 = c) → ∀ τ q, FX ΦR τ.sh τ.r → Wrg σ τ q → K (.inr ("DispatchHouseModel$Wrong", q)) τ) : B_X23_want_0 Z (d + 4) σ c K := by
  refine S_X23_want_0 (d := d + 3) F (rf_is F (fun h => ⟨fun _ => ?_, fun z => absurd z (by decide)⟩) (fun h => ⟨fun z => absurd rfl z, fun _ => ?_⟩))
  · exact rf_nxt hZ hd F hT hC fun τ f1 f2 f3 => h1 h τ f1 f2 f3
  · exact rf_no (d := d + 1) hZ (by omega) F fun τ q f1 f2 => ⟨_, wrg_aT f2, h0 h τ q f1 f2⟩
/-- want(s) -/
theorem rf_wantw {j : Nat} (hj : j ∈ stE) (hZ : ZK Z) (hd : 12 ≤ d) (F : FX ΦR σ.sh σ.r) (hT : TX t n σ) (hC : Cur t n p σ) (h1 : σ.i 0 17 = 1 ∧ σ.r 0 25 = Rf.old j → ∀ τ, FX ΦR τ.sh τ.r → LX σ τ → Cur t n (nxS t n p) τ → K (.inl none) τ) (h0 : ¬ (σ.i 0 17 = 1 ∧ σ.r 0 25 = Rf.old j) → ∀ τ q, FX ΦR τ.sh τ.r → Wrg σ τ q → K (.inr ("DispatchHouseModel$Wrong", q)) τ) : B_X23_want__0 Z (d + 4) σ (Rf.old j) K := by
  refine S_X23_want__0 (d := d + 3) F (rf_isw (d := d + 2) hZ (by omega) hj F (cur_w hC) (fun h => ⟨fun _ => ?_, fun z => absurd z (by decide)⟩) (fun h => ⟨fun z => absurd rfl z, fun _ => ?_⟩))
  · exact rf_nxt hZ hd F hT hC fun τ f1 f2 f3 => h1 h τ f1 f2 f3
  · exact rf_no (d := d + 1) hZ (by omega) F fun τ q f1 f2 => ⟨_, wrg_aT f2, h0 h τ q f1 f2⟩
/-- skip(s) -/
theorem rf_skip {j : Nat} (hj : j ∈ stE) (hZ : ZK Z) (hd : 12 ≤ d) (F : FX ΦR σ.sh σ.r) (hT : TX t n σ) (hC : Cur t n p σ) (h1 : σ.i 0 17 = 1 ∧ σ.r 0 25 = Rf.old j → ∀ τ, FX ΦR τ.sh τ.r → LX σ τ → Cur t n (nxS t n p) τ → K (.inl (some (.int 1))) τ) (h0 : ¬ (σ.i 0 17 = 1 ∧ σ.r 0 25 = Rf.old j) → K (.inl (some (.int 0))) σ) : B_X23_skip_0 Z (d + 4) σ (Rf.old j) K := by
  refine S_X23_skip_0 (d := d + 3) F (rf_isw (d := d + 2) hZ (by omega) hj F (cur_w hC) (fun h => ⟨fun _ => ?_, fun z => absurd z (by decide)⟩) (fun h => ⟨fun z => absurd rfl z, fun _ => h0 h⟩))
  exact rf_nxt hZ hd F hT hC fun τ f1 f2 f3 => h1 h τ f1 f2 f3
/-- name() -/
theorem rf_name (hZ : ZK Z) (hd : 12 ≤ d) (F : FX ΦR σ.sh σ.r) (hT : TX t n σ) (hC : Cur t n p σ) (h1 : σ.i 0 17 = 2 → ∀ τ, FX ΦR τ.sh τ.r → LX σ τ → Cur t n (nxS t n p) τ → K (.inl (some (.int (((σ.i 0 18) <<< ((5 : Int32) &&& 31)) ||| (σ.i 0 26))))) τ) (h0 : ¬ σ.i 0 17 = 2 → ∀ τ q, FX ΦR τ.sh τ.r → Wrg σ τ q → K (.inr ("DispatchHouseModel$Wrong", q)) τ) : B_X23_name_0 Z (d + 4) σ K := by
  refine S_X23_name_0 (d := d + 3) F ⟨fun h => ?_, fun h => ?_⟩
  · exact rf_nxt hZ hd F hT hC fun τ f1 f2 f3 => h1 h τ f1 f2 f3
  · exact rf_no (d := d + 1) hZ (by omega) F fun τ q f1 f2 => ⟨_, wrg_aT f2, h0 h τ q f1 f2⟩
/-- into() -/
theorem rf_into (hZ : ZK Z) (hd : 12 ≤ d) (F : FX ΦR σ.sh σ.r) (h1 : ¬ σ.i 0 20 = 12 → K (.inl none) (σ.wi 0 20 (σ.i 0 20 + 1))) (h0 : σ.i 0 20 = 12 → ∀ τ q, FX ΦR τ.sh τ.r → Wrg σ τ q → K (.inr ("DispatchHouseModel$Wrong", q)) τ) : B_X23_into_0 Z (d + 3) σ K :=
  S_X23_into_0 (d := d + 2) F ⟨h1, fun h => rf_no hZ hd F fun τ q f1 f2 => ⟨_, wrg_aT f2, h0 h τ q f1 f2⟩⟩
/-- breaks(what, where) -/
def brS (σ : Sg) (what wher : Int32) : Sg := if σ.i 0 23 < 0 ∨ wher < σ.i 0 23 ∨ (wher = σ.i 0 23 ∧ what < σ.i 0 24) then ((σ.wi 0 27 (σ.i 0 27 + 1)).wi 0 23 wher).wi 0 24 what else σ.wi 0 27 (σ.i 0 27 + 1)
theorem rf_breaks {a b : Int32} (F : FX ΦR σ.sh σ.r) (h : K (.inl none) (brS σ a b)) : B_X23_breaks_0 Z (d + 1) σ a b K := by
  unfold brS at h
  refine S_X23_breaks_0 F ⟨fun q => ?_, fun q => ⟨fun z => ?_, fun z => ⟨fun y => ?_, fun y => ⟨fun x => ?_, fun x => ?_⟩⟩⟩⟩
  · rw [if_pos (Or.inl q)] at h
    exact h
  · rw [if_neg] at h
    · exact h
    · rintro (w | w | w)
      · exact q w
      · exact absurd z (Int32.not_lt.mpr (Int32.le_of_lt w))
      · rw [w.1] at z
        exact Int32.lt_irrefl z
  · rw [if_pos] at h
    · exact h
    · refine Or.inr (Or.inl ?_)
      rw [Int32.lt_iff_toInt_lt] at z ⊢
      have : b.toInt ≠ (σ.i 0 23).toInt := fun e => y (Int32.toInt_inj.mp e)
      omega
  · rw [if_pos (Or.inr (Or.inr ⟨y, x⟩))] at h
    exact h
  · rw [if_neg] at h
    · exact h
    · rintro (w | w | w)
      · exact q w
      · rw [y] at w
        exact Int32.lt_irrefl w
      · exact x w.2
/-- counted(where) -/
def cnS (σ : Sg) (wher : Int32) : Sg := if σ.i 0 21 = 300 then (brS σ 7 wher).wi 0 21 ((brS σ 7 wher).i 0 21 + 1) else σ.wi 0 21 (σ.i 0 21 + 1)
theorem brS_fx {a b : Int32} (F : FX ΦR σ.sh σ.r) : FX ΦR (brS σ a b).sh (brS σ a b).r := by
  unfold brS
  split
  · exact F
  · exact F
theorem rf_counted {b : Int32} (F : FX ΦR σ.sh σ.r) (h : K (.inl none) (cnS σ b)) : B_X23_counted_0 Z (d + 2) σ b K := by
  unfold cnS at h
  refine S_X23_counted_0 (d := d + 1) F ⟨fun q => ?_, fun q => ?_⟩
  · rw [if_neg q] at h
    exact h
  · rw [if_pos q] at h
    exact rf_breaks F h
end HELP

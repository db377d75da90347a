/-! THE REFERENCE'S READER: its steps, over its state -/
theorem wi_ne {σ : Sg} {a k b j : Nat} {v : Int32} (h : ¬ (b = a ∧ j = k)) : (σ.wi a k v).i b j = σ.i b j := up_ne h
theorem wi_at (σ : Sg) (a k : Nat) (v : Int32) : (σ.wi a k v).i a k = v := up_same _ _ _ _
theorem wi_row {σ : Sg} {a k b : Nat} {v : Int32} (h : b ≠ a) : (σ.wi a k v).i b = σ.i b := up_row h
theorem wr_ne {σ : Sg} {a k b j : Nat} {v : Rf} (h : ¬ (b = a ∧ j = k)) : (σ.wr a k v).r b j = σ.r b j := up_ne h
theorem wr_at (σ : Sg) (a k : Nat) (v : Rf) : (σ.wr a k v).r a k = v := up_same _ _ _ _
theorem wr_row {σ : Sg} {a k b : Nat} {v : Rf} (h : b ≠ a) : (σ.wr a k v).r b = σ.r b := up_row h
theorem skN_gt {t : Nat → Int32} {n p : Nat} (h : p < n) (hl : isLet (t p)) : p < skN t n (n - p) p := by
  obtain ⟨m, hm⟩ : ∃ m, n - p = m + 1 := ⟨n - p - 1, by omega⟩
  rw [hm]
  unfold skN
  rw [if_pos ⟨h, Or.inl hl⟩]
  exact Nat.lt_of_lt_of_le (Nat.lt_succ_self p) (skN_le t n m (p + 1)).1
theorem skD_gt {t : Nat → Int32} {n p : Nat} (h : p < n) (hl : isDig (t p)) : p < (skD t n (n - p) p 0).1 := by
  obtain ⟨m, hm⟩ : ∃ m, n - p = m + 1 := ⟨n - p - 1, by omega⟩
  rw [hm]
  unfold skD
  rw [if_pos ⟨h, hl⟩]
  exact Nat.lt_of_lt_of_le (Nat.lt_succ_self p) (skD_le t n m (p + 1) _).1
theorem skB_ge (t : Nat → Int32) (n : Nat) : ∀ m a, a ≤ skB t n m a
  | 0, a => Nat.le_refl _
  | m + 1, a => by
    unfold skB
    split
    · split
      · exact Nat.le_trans (skR_le t n _ a).1 (skB_ge t n m _)
      · split
        · exact Nat.le_trans (Nat.le_succ a) (skB_ge t n m (a + 1))
        · exact Nat.le_refl _
    · exact Nat.le_refl _
theorem nxS_gt {t : Nat → Int32} {n p : Nat} (h : p < n) : p < nxS t n p := by
  have h1 : p < enS t n p := by
    unfold enS
    rw [if_pos h]
    split
    · rename_i hl
      exact skN_gt h hl
    · split
      · rename_i hl
        exact skD_gt h hl
      · split <;> omega
  exact Nat.lt_of_lt_of_le h1 (skB_ge t n _ _)

def RSb (n : Nat) (m : Nat) (lst : List Nat) (cap p u : Nat) : Prop := m ≤ lst.length ∧ lst.length ≤ 23400 ∧ cap ≤ 2 * lst.length + 10 ∧ m + 2 * (n - p) ≤ u ∧ u ≤ 23000
section STEPS
variable {Z : zT} {d : Nat} {t : Nat → Int32} {n N : Nat} {env : Env} {B : Int32 × Int32 × Rf} {σ τ : Sg} {p c o : Nat} {vs : List (Nat × Nat)} {es : Evs} {m : Nat} {lst : List Nat} {cap u : Nat} {K : kS}
theorem RS.fx (S : RS t n N env B σ p c o vs es m lst cap u) : FX ΦR σ.sh σ.r := S.1
theorem RS.tx (S : RS t n N env B σ p c o vs es m lst cap u) : TX t n σ := S.2.1
theorem RS.cur (S : RS t n N env B σ p c o vs es m lst cap u) : Cur t n p σ := S.2.2.1
theorem RS.en (S : RS t n N env B σ p c o vs es m lst cap u) : EnR env σ := S.2.2.2.1
theorem RS.vr (S : RS t n N env B σ p c o vs es m lst cap u) : VrR vs σ := S.2.2.2.2.1
theorem RS.vo (S : RS t n N env B σ p c o vs es m lst cap u) : vs.length ≤ o + 3 ∧ o ≤ 12 := S.2.2.2.2.2.1
theorem RS.op (S : RS t n N env B σ p c o vs es m lst cap u) : σ.i 0 20 = Int32.ofNat o := S.2.2.2.2.2.2.1
theorem RS.ct (S : RS t n N env B σ p c o vs es m lst cap u) : σ.i 0 21 = Int32.ofNat c := S.2.2.2.2.2.2.2.1
theorem RS.rl (S : RS t n N env B σ p c o vs es m lst cap u) : RlR B.1 es σ := S.2.2.2.2.2.2.2.2.1.1
theorem RS.cc (S : RS t n N env B σ p c o vs es m lst cap u) : σ.i 0 22 = B.2.1 := S.2.2.2.2.2.2.2.2.1.2
theorem RS.nn (S : RS t n N env B σ p c o vs es m lst cap u) : N = 5 ∨ N = 7 := S.2.2.2.2.2.2.2.2.2.1
theorem RS.md (S : RS t n N env B σ p c o vs es m lst cap u) : σ.r 0 34 = B.2.2 := S.2.2.2.2.2.2.2.2.2.2.1
theorem RS.ls (S : RS t n N env B σ p c o vs es m lst cap u) : LsS σ (N + 1) lst cap := S.2.2.2.2.2.2.2.2.2.2.2.1
theorem RS.nm (S : RS t n N env B σ p c o vs es m lst cap u) : σ.i N 1 = Int32.ofNat m := S.2.2.2.2.2.2.2.2.2.2.2.2.1
theorem RS.bd (S : RS t n N env B σ p c o vs es m lst cap u) : RSb n m lst cap p u := S.2.2.2.2.2.2.2.2.2.2.2.2.2
theorem RS.n22 (S : RS t n N env B σ p c o vs es m lst cap u) : sh0R[N]? = some (Sh.obj 22) := by
  rcases S.nn with rfl | rfl <;> decide +kernel
theorem RS.pn (S : RS t n N env B σ p c o vs es m lst cap u) : p ≤ n ∧ n ≤ 8192 := ⟨S.cur.1, S.tx.1⟩
theorem RS.upd (S : RS t n N env B σ p c o vs es m lst cap u) (hF : FX ΦR τ.sh τ.r) (hs : τ.sh = σ.sh) (hi : ∀ a, 0 < a → a < 3365 → a ≠ 54 → τ.i a = σ.i a) (h0 : ∀ k, ¬ rdK k → τ.i 0 k = σ.i 0 k) (h34 : τ.r 0 34 = σ.r 0 34) (hL : τ.r (N + 1) 1 = σ.r (N + 1) 1) (hA : ∀ b, σ.r (N + 1) 1 = Rf.ptr b → τ.r b = σ.r b) {p' c' o' u' : Nat} {vs' : List (Nat × Nat)} {es' : Evs} (hC : Cur t n p' τ) (hV : VrR vs' τ) (hv : vs'.length ≤ o' + 3 ∧ o' ≤ 12) (h20 : τ.i 0 20 = Int32.ofNat o') (h21 : τ.i 0 21 = Int32.ofNat c') (hR : RlR B.1 es' τ) (h22 : τ.i 0 22 = B.2.1) (hu : m + 2 * (n - p') ≤ u' ∧ u' ≤ 23000) : RS t n N env B τ p' c' o' vs' es' m lst cap u' := by
  have hN : N + 1 < 3365 ∧ N + 1 ≠ 54 ∧ N ≠ 54 ∧ 0 < N := by rcases S.nn with q | q <;> omega
  obtain ⟨x1, x2, x3, x4⟩ := S.tx
  obtain ⟨b1, b2, b3, -⟩ := S.bd
  refine ⟨hF, ⟨x1, (h0 15 (by decide)).trans x2, fun k hk => ?_, x4⟩, hC, S.en.mono (fun a h1 h2 => hi a (by omega) (by omega) (by omega)) (fun k hk => h0 k (by rcases hk with rfl | rfl | rfl | rfl <;> decide)), hV, hv, h20, h21, ⟨hR, h22⟩, S.nn, h34.trans S.md, S.ls.mono (fun a s q => by rw [hs]; exact q) (by rw [hi _ (by omega) hN.1 hN.2.1]) hL hA, ?_, b1, b2, b3, hu⟩
  · rw [hi 37 (by decide) (by decide) (by decide)]
    exact x3 k hk
  · rw [hi N hN.2.2.2 (by omega) hN.2.2.1]
    exact S.nm
theorem RS.wk (S : RS t n N env B σ p c o vs es m lst cap u) {u' : Nat} (h : u ≤ u') (h2 : u' ≤ 23000) : RS t n N env B σ p c o vs es m lst cap u' := by
  obtain ⟨b1, b2, b3, b4, b5⟩ := S.bd
  exact ⟨S.fx, S.tx, S.cur, S.en, S.vr, S.vo, S.op, S.ct, ⟨S.rl, S.cc⟩, S.nn, S.md, S.ls, S.nm, b1, b2, b3, by omega, h2⟩
/-- next() and what only it changes -/
theorem RS.lx (S : RS t n N env B σ p c o vs es m lst cap u) (hF : FX ΦR τ.sh τ.r) (hX : LX σ τ) {p' u' : Nat} (hC : Cur t n p' τ) (hu : m + 2 * (n - p') ≤ u' ∧ u' ≤ 23000) : RS t n N env B τ p' c o vs es m lst cap u' ∧ RF N vs.length σ τ lst cap lst cap (fun _ => False) := by
  have e0 : ∀ k, ¬ (k = 16 ∨ k = 17 ∨ k = 18 ∨ k = 19 ∨ k = 26) → τ.i 0 k = σ.i 0 k := fun k hk => hX.2.2.1 0 k (fun q => hk q.2)
  have ei : ∀ a, a ≠ 0 → τ.i a = σ.i a := fun a ha => funext fun k => hX.2.2.1 a k (fun q => ha q.1)
  have er : ∀ a, a ≠ 0 → τ.r a = σ.r a := fun a ha => funext fun k => hX.2.2.2 a k (fun q => ha q.1)
  have rk : ∀ k, ¬ rdK k → τ.i 0 k = σ.i 0 k := fun k hk => e0 k (fun q => hk (by unfold rdK; omega))
  have hN : N + 1 ≠ 0 := by omega
  refine ⟨S.upd hF hX.1 (fun a h1 _ _ => ei a (by omega)) rk (hX.2.2.2 0 34 (by decide)) (by rw [er _ hN]) (fun b hb => er b ?_) hC (S.vr.mono (e0 32 (by decide)) (fun k _ => by rw [ei 54 (by decide)])) S.vo ((e0 20 (by decide)).trans S.op) ((e0 21 (by decide)).trans S.ct) (S.rl.mono (e0 23 (by decide)) (e0 24 (by decide)) (e0 27 (by decide))) ((e0 22 (by decide)).trans S.cc) hu, ⟨[], (List.append_nil _).symm, fun v hv => (by cases hv), by rw [hX.1]; exact RmL.refl _ _⟩, fun a _ h1 _ _ _ _ => ⟨ei a h1, by rw [hX.2.1], fun _ => er a h1⟩, rk, by rw [hX.2.1], fun k hk => hX.2.2.2 0 k (fun q => hk q.2), fun k _ => by rw [ei 54 (by decide)], Or.inl (by rw [er _ hN])⟩
  have := oa_ge S.fx (S.ls.arr hb)
  omega
/-- a number of the reader written -/
theorem RS.w0 (S : RS t n N env B σ p c o vs es m lst cap u) {k : Nat} {v : Int32} (hk : k = 20 ∨ k = 21 ∨ k = 22 ∨ k = 23 ∨ k = 24 ∨ k = 27) : RF N vs.length σ (σ.wi 0 k v) lst cap lst cap (fun _ => False) := by
  refine ⟨⟨[], (List.append_nil _).symm, fun v hv => (by cases hv), RmL.refl _ _⟩, fun a _ h1 _ _ _ _ => ⟨up_row h1, rfl, fun _ => rfl⟩, fun j hj => wi_ne (fun q => hj ?_), rfl, fun _ _ => rfl, fun j _ => wi_ne (by omega), Or.inl rfl⟩
  rw [q.2]
  unfold rdK
  omega
theorem Cur.w0 (h : Cur t n p σ) {k : Nat} {v : Int32} (hk : k = 20 ∨ k = 21 ∨ k = 22 ∨ k = 23 ∨ k = 24 ∨ k = 27 ∨ k = 32) : Cur t n p (σ.wi 0 k v) := by
  obtain ⟨h1, h2, h3, h4, h5, h6⟩ := h
  have e : ∀ j, j ≠ k → (σ.wi 0 k v).i 0 j = σ.i 0 j := fun j hj => up_ne (fun q => hj q.2)
  refine ⟨h1, (e 18 (by omega)).trans h2, (e 16 (by omega)).trans h3, (e 17 (by omega)).trans h4, fun a b => (e 19 (by omega)).trans (h5 a b), fun a b => ⟨(e 26 (by omega)).trans (h6 a b).1, (h6 a b).2⟩⟩
theorem RS.w1 (S : RS t n N env B σ p c o vs es m lst cap u) {k : Nat} {v : Int32} (hk : k = 20 ∨ k = 21 ∨ k = 23 ∨ k = 24 ∨ k = 27) {c' o' : Nat} {es' : Evs} (hv : vs.length ≤ o' + 3 ∧ o' ≤ 12) (h20 : (σ.wi 0 k v).i 0 20 = Int32.ofNat o') (h21 : (σ.wi 0 k v).i 0 21 = Int32.ofNat c') (hR : RlR B.1 es' (σ.wi 0 k v)) : RS t n N env B (σ.wi 0 k v) p c' o' vs es' m lst cap u := by
  obtain ⟨b1, b2, b3, b4, b5⟩ := S.bd
  have e : ∀ j, j ≠ k → (σ.wi 0 k v).i 0 j = σ.i 0 j := fun j hj => up_ne (fun q => hj q.2)
  exact S.upd (τ := σ.wi 0 k v) S.fx rfl (fun a h1 _ _ => wi_row (by omega)) (fun j hj => e j (fun q => hj (by rw [q]; unfold rdK; omega))) rfl rfl (fun _ _ => rfl) (S.cur.w0 (by omega)) (S.vr.mono (e 32 (by omega)) (fun j _ => wi_ne (by omega))) hv h20 h21 hR ((e 22 (by omega)).trans S.cc) ⟨b4, b5⟩
theorem RlR.w0 {k : Nat} {v : Int32} (h : RlR B.1 es σ) (hk : k = 20 ∨ k = 21 ∨ k = 22) : RlR B.1 es (σ.wi 0 k v) := by
  have e : ∀ j, j ≠ k → (σ.wi 0 k v).i 0 j = σ.i 0 j := fun j hj => up_ne (fun q => hj q.2)
  exact h.mono (e 23 (by omega)) (e 24 (by omega)) (e 27 (by omega))
/-- what was thrown at q, somewhere behind σ0 -/
def WR (n N nv : Nat) (σ0 : Sg) (lst0 : List Nat) (m0 cap0 : Nat) (τ : Sg) (a q : Nat) : Prop := q ≤ n ∧ FX ΦR τ.sh τ.r ∧ ∃ σ m lst cap, RF N nv σ0 σ lst0 cap0 lst cap (fun i => m0 ≤ i) ∧ FX ΦR σ.sh σ.r ∧ LsS σ (N + 1) lst cap ∧ σ.i N 1 = Int32.ofNat m ∧ m0 ≤ m ∧ m ≤ lst.length ∧ lst.length ≤ 23400 ∧ cap ≤ 2 * lst.length + 10 ∧ a = σ.sh.length ∧ τ.sh = σ.sh ++ [Sh.obj 23] ∧ τ.i a 6 = Int32.ofNat q ∧ ∀ b, b < σ.sh.length → τ.i b = σ.i b ∧ τ.l b = σ.l b ∧ τ.r b = σ.r b
theorem WR.tr {nv nv' : Nat} {σ0 : Sg} {lst0 : List Nat} {m0 cap0 : Nat} {a q : Nat} {υ : Sg} {W : Nat → Prop} (H : RF N nv σ0 σ lst0 cap0 lst cap W) (hW : ∀ i, W i → m0 ≤ i) (hm : m0 ≤ m) (hv : nv ≤ nv') (h : WR n N nv' σ lst m cap υ a q) : WR n N nv σ0 lst0 m0 cap0 υ a q := by
  obtain ⟨h1, h2, σ1, m1, lst1, cap1, h3, h4, h5, h6, h7, h8⟩ := h
  exact ⟨h1, h2, σ1, m1, lst1, cap1, (H.wk (W := fun i => m0 ≤ i) hW (Nat.le_refl _)).tr h3 (fun i hi => Nat.le_trans hm hi) hv, h4, h5, h6, by omega, h8⟩
theorem RS.wr (S : RS t n N env B σ p c o vs es m lst cap u) {q : Nat} (hF : FX ΦR τ.sh τ.r) (h : Wrg σ τ q) : WR n N vs.length σ lst m cap τ q p := by
  obtain ⟨b1, b2, b3, -⟩ := S.bd
  obtain ⟨w1, w2, w3, w4⟩ := h
  exact ⟨S.pn.1, hF, σ, m, lst, cap, RF.refl _ _ _ _ _ _, S.fx, S.ls, S.nm, Nat.le_refl _, b1, b2, b3, w1, w2, w3.trans S.cur.2.1, w4⟩
/-- next() -/
theorem rs_next (hZ : ZK Z) (hd : 15 ≤ d) (S : RS t n N env B σ p c o vs es m lst cap u) (hp : p < n) (k : ∀ τ, RS t n N env B τ (nxS t n p) c o vs es m lst cap (u - 2) → RF N vs.length σ τ lst cap lst cap (fun _ => False) → K (.inl none) τ) : B_X23_next_0 Z d σ K := by
  obtain ⟨d, rfl⟩ : ∃ e, d = e + 3 := ⟨d - 3, by omega⟩
  have hg := nxS_gt (t := t) hp
  obtain ⟨b1, b2, b3, b4, b5⟩ := S.bd
  refine rf_nxt hZ (by omega) S.fx S.tx S.cur (fun τ f1 f2 f3 => ?_)
  obtain ⟨g1, g2⟩ := S.lx f1 f2 f3 (u' := u - 2) ⟨by omega, by omega⟩
  exact k τ g1 g2
theorem rs_want {x : Int32} {y : Nat} (hk : (x, y) ∈ mkL2) (hZ : ZK Z) (hd : 16 ≤ d) (S : RS t n N env B σ p c o vs es m lst cap u) (h1 : tyS t n p = y → ∀ τ, RS t n N env B τ (nxS t n p) c o vs es m lst cap (u - 2) → RF N vs.length σ τ lst cap lst cap (fun _ => False) → K (.inl none) τ) (h0 : tyS t n p ≠ y → ∀ τ q, WR n N vs.length σ lst m cap τ q p → K (.inr ("DispatchHouseModel$Wrong", q)) τ) : B_X23_want_0 Z d σ x K := by
  obtain ⟨d, rfl⟩ : ∃ e, d = e + 4 := ⟨d - 4, by omega⟩
  refine rf_want hZ (by omega) S.fx S.tx S.cur (fun h τ f1 f2 f3 => ?_) (fun h τ q f1 f2 => h0 (fun z => h ((ty_mk hk S.cur).mpr z)) τ q (S.wr f1 f2))
  have hy := (ty_mk hk S.cur).mp h
  have hp : p < n := ty_pos (t := t) (by have := (mkL2_c _ hk).2.1; dsimp only at this; omega)
  have hg := nxS_gt (t := t) hp
  obtain ⟨b1, b2, b3, b4, b5⟩ := S.bd
  obtain ⟨g1, g2⟩ := S.lx f1 f2 f3 (u' := u - 2) ⟨by omega, by omega⟩
  exact h1 hy τ g1 g2
theorem rs_wantw {x y : Nat} (hk : (x, y) ∈ wdL) (hZ : ZK Z) (hd : 16 ≤ d) (S : RS t n N env B σ p c o vs es m lst cap u) (h1 : tyS t n p = y → ∀ τ, RS t n N env B τ (nxS t n p) c o vs es m lst cap (u - 2) → RF N vs.length σ τ lst cap lst cap (fun _ => False) → K (.inl none) τ) (h0 : tyS t n p ≠ y → ∀ τ q, WR n N vs.length σ lst m cap τ q p → K (.inr ("DispatchHouseModel$Wrong", q)) τ) : B_X23_want__0 Z d σ (Rf.old x) K := by
  obtain ⟨d, rfl⟩ : ∃ e, d = e + 4 := ⟨d - 4, by omega⟩
  have hc := wdL_c _ hk
  dsimp only at hc
  refine rf_wantw hc.2.2.2 hZ (by omega) S.fx S.tx S.cur (fun h τ f1 f2 f3 => ?_) (fun h τ q f1 f2 => h0 (fun z => h ((ty_wd hk S.cur).mpr z)) τ q (S.wr f1 f2))
  have hy := (ty_wd hk S.cur).mp h
  have hp : p < n := ty_pos (t := t) (by omega)
  have hg := nxS_gt (t := t) hp
  obtain ⟨b1, b2, b3, b4, b5⟩ := S.bd
  obtain ⟨g1, g2⟩ := S.lx f1 f2 f3 (u' := u - 2) ⟨by omega, by omega⟩
  exact h1 hy τ g1 g2
theorem rs_skip {x y : Nat} (hk : (x, y) ∈ wdL) (hZ : ZK Z) (hd : 16 ≤ d) (S : RS t n N env B σ p c o vs es m lst cap u) (h1 : tyS t n p = y → ∀ τ, RS t n N env B τ (nxS t n p) c o vs es m lst cap (u - 2) → RF N vs.length σ τ lst cap lst cap (fun _ => False) → K (.inl (some (.int 1))) τ) (h0 : tyS t n p ≠ y → K (.inl (some (.int 0))) σ) : B_X23_skip_0 Z d σ (Rf.old x) K := by
  obtain ⟨d, rfl⟩ : ∃ e, d = e + 4 := ⟨d - 4, by omega⟩
  have hc := wdL_c _ hk
  dsimp only at hc
  refine rf_skip hc.2.2.2 hZ (by omega) S.fx S.tx S.cur (fun h τ f1 f2 f3 => ?_) (fun h => h0 (fun z => h ((ty_wd hk S.cur).mpr z)))
  have hy := (ty_wd hk S.cur).mp h
  have hp : p < n := ty_pos (t := t) (by omega)
  have hg := nxS_gt (t := t) hp
  obtain ⟨b1, b2, b3, b4, b5⟩ := S.bd
  obtain ⟨g1, g2⟩ := S.lx f1 f2 f3 (u' := u - 2) ⟨by omega, by omega⟩
  exact h1 hy τ g1 g2
theorem rs_is {x : Int32} {y : Nat} (hk : (x, y) ∈ mkL2) (hd : 1 ≤ d) (S : RS t n N env B σ p c o vs es m lst cap u) (h1 : tyS t n p = y → K (.inl (some (.int 1))) σ) (h0 : tyS t n p ≠ y → K (.inl (some (.int 0))) σ) : B_X23_is_0 Z d σ x K := by
  obtain ⟨d, rfl⟩ : ∃ e, d = e + 1 := ⟨d - 1, by omega⟩
  exact rf_is S.fx (fun h => h1 ((ty_mk hk S.cur).mp h)) (fun h => h0 (fun z => h ((ty_mk hk S.cur).mpr z)))
theorem rs_isw {x y : Nat} (hk : (x, y) ∈ wdL) (hZ : ZK Z) (hd : 13 ≤ d) (S : RS t n N env B σ p c o vs es m lst cap u) (h1 : tyS t n p = y → K (.inl (some (.int 1))) σ) (h0 : tyS t n p ≠ y → K (.inl (some (.int 0))) σ) : B_X23_is__0 Z d σ (Rf.old x) K := by
  obtain ⟨d, rfl⟩ : ∃ e, d = e + 1 := ⟨d - 1, by omega⟩
  have hc := wdL_c _ hk
  dsimp only at hc
  exact rf_isw hZ (by omega) hc.2.2.2 S.fx (cur_w S.cur) (fun h => h1 ((ty_wd hk S.cur).mp h)) (fun h => h0 (fun z => h ((ty_wd hk S.cur).mpr z)))
theorem ln_le (h : p ≤ n) : p + lnS t n p ≤ n := by
  unfold lnS
  have := (skN_le t n (n - p) p).2 h
  have := (skN_le t n (n - p) p).1
  omega
/-- name(): its place and length -/
theorem rs_name (hZ : ZK Z) (hd : 16 ≤ d) (S : RS t n N env B σ p c o vs es m lst cap u) (h1 : tyS t n p = 2 → p + lnS t n p ≤ 8192 → lnS t n p ≤ 16 → ∀ τ, RS t n N env B τ (nxS t n p) c o vs es m lst cap (u - 2) → RF N vs.length σ τ lst cap lst cap (fun _ => False) → K (.inl (some (.int (Int32.ofNat (32 * p + lnS t n p))))) τ) (h0 : tyS t n p ≠ 2 → ∀ τ q, WR n N vs.length σ lst m cap τ q p → K (.inr ("DispatchHouseModel$Wrong", q)) τ) : B_X23_name_0 Z d σ K := by
  obtain ⟨d, rfl⟩ : ∃ e, d = e + 4 := ⟨d - 4, by omega⟩
  refine rf_name hZ (by omega) S.fx S.tx S.cur (fun h τ f1 f2 f3 => ?_) (fun h τ q f1 f2 => h0 (fun z => h ((ty_lo (k := 2) (Or.inl rfl) S.cur).mpr z)) τ q (S.wr f1 f2))
  have hy := (ty_lo (k := 2) (Or.inl rfl) S.cur).mp h
  obtain ⟨hp, hl, h16⟩ := ty_nm hy
  have hg := nxS_gt (t := t) hp
  obtain ⟨b1, b2, b3, b4, b5⟩ := S.bd
  obtain ⟨g1, g2⟩ := S.lx f1 f2 f3 (u' := u - 2) ⟨by omega, by omega⟩
  have hpn := S.pn
  have hln := ln_le (t := t) hpn.1
  rw [S.cur.2.1, (S.cur.2.2.2.2.2 hp hl).1, nm_mk (by omega) (by omega)]
  exact h1 hy (by omega) h16 τ g1 g2
theorem rs_into (hZ : ZK Z) (hd : 15 ≤ d) (S : RS t n N env B σ p c o vs es m lst cap u) (h1 : o < 12 → ∀ τ, RS t n N env B τ p c (o + 1) vs es m lst cap u → RF N vs.length σ τ lst cap lst cap (fun _ => False) → K (.inl none) τ) (h0 : o = 12 → ∀ τ q, WR n N vs.length σ lst m cap τ q p → K (.inr ("DispatchHouseModel$Wrong", q)) τ) : B_X23_into_0 Z d σ K := by
  obtain ⟨d, rfl⟩ : ∃ e, d = e + 3 := ⟨d - 3, by omega⟩
  have hvo := S.vo
  refine rf_into hZ (by omega) S.fx (fun h => ?_) (fun h τ q f1 f2 => h0 ((oN_eq (by omega) (by decide)).mp (S.op.symm.trans h)) τ q (S.wr f1 f2))
  have ho : o < 12 := by
    refine Nat.lt_of_le_of_ne hvo.2 (fun z => h ?_)
    rw [S.op, z]
    rfl
  rw [S.op, oN_1]
  obtain ⟨b1, b2, b3, b4, b5⟩ := S.bd
  exact h1 ho _ (S.w1 (k := 20) (v := Int32.ofNat (o + 1)) (by decide) ⟨by omega, by omega⟩ (wi_at _ _ _ _) ((wi_ne (by decide)).trans S.ct) (S.rl.w0 (by decide))) (S.w0 (by decide))
/-- one less is open -/
theorem RS.out (S : RS t n N env B σ p c (o + 1) vs es m lst cap u) (hv : vs.length ≤ o + 3) : RS t n N env B (σ.wi 0 20 (σ.i 0 20 - 1)) p c o vs es m lst cap u ∧ RF N vs.length σ (σ.wi 0 20 (σ.i 0 20 - 1)) lst cap lst cap (fun _ => False) := by
  have hvo := S.vo
  obtain ⟨b1, b2, b3, b4, b5⟩ := S.bd
  refine ⟨S.w1 (k := 20) (v := σ.i 0 20 - 1) (by decide) ⟨by omega, by omega⟩ ?_ ((wi_ne (by decide)).trans S.ct) (S.rl.w0 (by decide)), S.w0 (by decide)⟩
  show up σ.i 0 20 _ 0 20 = _
  rw [up_same, S.op, oN_p1 (by omega)]
  rfl
theorem brS_or (σ : Sg) (a b : Int32) : brS σ a b = ((σ.wi 0 27 (σ.i 0 27 + 1)).wi 0 23 b).wi 0 24 a ∨ brS σ a b = σ.wi 0 27 (σ.i 0 27 + 1) := by
  unfold brS
  split
  · exact Or.inl rfl
  · exact Or.inr rfl
theorem RS.brk (S : RS t n N env B σ p c o vs es m lst cap u) {w r : Nat} (hw : w ≤ 8192) (hr : r ≤ 7) : RS t n N env B (brS σ (Int32.ofNat r) (Int32.ofNat w)) p c o vs (es ++ [(w, r)]) m lst cap u ∧ RF N vs.length σ (brS σ (Int32.ofNat r) (Int32.ofNat w)) lst cap lst cap (fun _ => False) := by
  obtain ⟨b1, b2, b3, b4, b5⟩ := S.bd
  have hR := S.rl.br hw hr
  have hrk : rdK 23 ∧ rdK 24 ∧ rdK 27 := by decide
  rcases brS_or σ (Int32.ofNat r) (Int32.ofNat w) with e | e
  · rw [e] at hR ⊢
    have hi : ∀ a k, ¬ (a = 0 ∧ (k = 23 ∨ k = 24 ∨ k = 27)) → (((σ.wi 0 27 (σ.i 0 27 + 1)).wi 0 23 (Int32.ofNat w)).wi 0 24 (Int32.ofNat r)).i a k = σ.i a k := fun a k h => by
      rw [wi_i, if_neg (fun q => h ⟨q.1, by omega⟩), wi_i, if_neg (fun q => h ⟨q.1, by omega⟩), wi_i, if_neg (fun q => h ⟨q.1, by omega⟩)]
    refine ⟨S.upd (τ := ((σ.wi 0 27 (σ.i 0 27 + 1)).wi 0 23 (Int32.ofNat w)).wi 0 24 (Int32.ofNat r)) S.fx rfl (fun a h1 _ _ => funext fun k => hi a k (by omega)) (fun k hk => hi 0 k (fun q => by rcases q.2 with z | z | z <;> rw [z] at hk <;> exact hk (by decide))) rfl rfl (fun _ _ => rfl) (((S.cur.w0 (by decide)).w0 (by decide)).w0 (by decide)) (S.vr.mono (hi 0 32 (by decide)) (fun k _ => hi 54 k (by omega))) S.vo ((hi 0 20 (by decide)).trans S.op) ((hi 0 21 (by decide)).trans S.ct) hR ((hi 0 22 (by decide)).trans S.cc) ⟨b4, b5⟩, ?_⟩
    refine ⟨⟨[], (List.append_nil _).symm, fun v hv => (by cases hv), RmL.refl _ _⟩, fun a _ h1 _ _ _ _ => ⟨funext fun k => hi a k (by omega), rfl, fun _ => rfl⟩, fun k hk => hi 0 k (fun q => by rcases q.2 with z | z | z <;> rw [z] at hk <;> exact hk (by decide)), rfl, fun _ _ => rfl, fun k _ => hi 54 k (by omega), Or.inl rfl⟩
  · rw [e] at hR ⊢
    exact ⟨S.w1 (k := 27) (by decide) S.vo ((wi_ne (by decide)).trans S.op) ((wi_ne (by decide)).trans S.ct) hR, S.w0 (by decide)⟩
theorem rs_breaks {w r : Nat} (hd : 1 ≤ d) (hw : w ≤ 8192) (hr : r ≤ 7) (S : RS t n N env B σ p c o vs es m lst cap u) (k : ∀ τ, RS t n N env B τ p c o vs (es ++ [(w, r)]) m lst cap u → RF N vs.length σ τ lst cap lst cap (fun _ => False) → K (.inl none) τ) : B_X23_breaks_0 Z d σ (Int32.ofNat r) (Int32.ofNat w) K := by
  obtain ⟨d, rfl⟩ : ∃ e, d = e + 1 := ⟨d - 1, by omega⟩
  obtain ⟨g1, g2⟩ := S.brk hw hr
  exact rf_breaks S.fx (k _ g1 g2)
theorem rs_counted {w : Nat} (hd : 2 ≤ d) (hw : w ≤ 8192) (S : RS t n N env B σ p c o vs es m lst cap u) (k : ∀ τ, RS t n N env B τ p (c + 1) o vs (es ++ cnE c w) m lst cap u → RF N vs.length σ τ lst cap lst cap (fun _ => False) → K (.inl none) τ) : B_X23_counted_0 Z d σ (Int32.ofNat w) K := by
  obtain ⟨d, rfl⟩ : ∃ e, d = e + 2 := ⟨d - 2, by omega⟩
  have w1 : ∀ {σ : Sg} {es : Evs}, RS t n N env B σ p c o vs es m lst cap u → RS t n N env B (σ.wi 0 21 (σ.i 0 21 + 1)) p (c + 1) o vs es m lst cap u ∧ RF N vs.length σ (σ.wi 0 21 (σ.i 0 21 + 1)) lst cap lst cap (fun _ => False) := by
    intro σ es S
    obtain ⟨b1, b2, b3, b4, b5⟩ := S.bd
    refine ⟨S.w1 (k := 21) (v := σ.i 0 21 + 1) (by decide) S.vo ((wi_ne (by decide)).trans S.op) ?_ (S.rl.w0 (by decide)), S.w0 (by decide)⟩
    exact (wi_at _ _ _ _).trans (by rw [S.ct, oN_1])
  refine rf_counted S.fx ?_
  unfold cnS
  rw [S.ct]
  unfold cnE at k
  by_cases q : Int32.ofNat c = 300
  · rw [if_pos q]
    rw [if_pos q] at k
    obtain ⟨g1, g2⟩ := S.brk (r := 7) hw (by decide)
    obtain ⟨g3, g4⟩ := w1 g1
    exact k _ g3 (g2.tr g4 (fun _ z => z) (Nat.le_refl _))
  · rw [if_neg q]
    rw [if_neg q, List.append_nil] at k
    obtain ⟨g3, g4⟩ := w1 S
    rw [S.ct] at g3 g4
    exact k _ g3 g4
end STEPS

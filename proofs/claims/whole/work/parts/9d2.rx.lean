/-! THE REFERENCE'S READER BETWEEN DECLARATIONS: whatever variables there are -/
def RX (t : Nat → Int32) (n : Nat) (env : Env) (B : Int32 × Int32 × Rf) (σ : Sg) (p : Nat) (es : Evs) (m : Nat) (lst : List Nat) (cap u : Nat) : Prop :=
  FX ΦR σ.sh σ.r ∧ TX t n σ ∧ Cur t n p σ ∧ EnR env σ ∧ σ.i 0 20 = 0 ∧ (RlR B.1 es σ ∧ σ.i 0 22 = B.2.1) ∧ σ.r 0 34 = B.2.2 ∧ LsS σ 6 lst cap ∧ σ.i 5 1 = Int32.ofNat m ∧ RSb n m lst cap p u
theorem oN_ex (x : Int32) : ∃ c, x = Int32.ofNat c := by
  refine ⟨x.toBitVec.toNat, ?_⟩
  apply Int32.toBitVec_inj.mp
  rw [oN_bv, BitVec.ofNat_toNat]
  exact (BitVec.setWidth_eq _).symm
section RX
variable {Z : zT} {d : Nat} {t : Nat → Int32} {n : Nat} {env env' : Env} {B : Int32 × Int32 × Rf} {σ τ : Sg} {p c o : Nat} {vs : List (Nat × Nat)} {es E : Evs} {m : Nat} {lst : List Nat} {cap u : Nat} {K : kS} {M q l : Nat}
theorem RX.fx (S : RX t n env B σ p es m lst cap u) : FX ΦR σ.sh σ.r := S.1
theorem RX.tx (S : RX t n env B σ p es m lst cap u) : TX t n σ := S.2.1
theorem RX.cur (S : RX t n env B σ p es m lst cap u) : Cur t n p σ := S.2.2.1
theorem RX.en (S : RX t n env B σ p es m lst cap u) : EnR env σ := S.2.2.2.1
theorem RX.op (S : RX t n env B σ p es m lst cap u) : σ.i 0 20 = 0 := S.2.2.2.2.1
theorem RX.rl (S : RX t n env B σ p es m lst cap u) : RlR B.1 es σ := S.2.2.2.2.2.1.1
theorem RX.cc (S : RX t n env B σ p es m lst cap u) : σ.i 0 22 = B.2.1 := S.2.2.2.2.2.1.2
theorem RX.md (S : RX t n env B σ p es m lst cap u) : σ.r 0 34 = B.2.2 := S.2.2.2.2.2.2.1
theorem RX.ls (S : RX t n env B σ p es m lst cap u) : LsS σ 6 lst cap := S.2.2.2.2.2.2.2.1
theorem RX.nm (S : RX t n env B σ p es m lst cap u) : σ.i 5 1 = Int32.ofNat m := S.2.2.2.2.2.2.2.2.1
theorem RX.bd (S : RX t n env B σ p es m lst cap u) : RSb n m lst cap p u := S.2.2.2.2.2.2.2.2.2
theorem RX.pn (S : RX t n env B σ p es m lst cap u) : p ≤ n ∧ n ≤ 8192 := ⟨S.cur.1, S.tx.1⟩
theorem RX.wk (S : RX t n env B σ p es m lst cap u) {u' : Nat} (h : u ≤ u') (h2 : u' ≤ 23000) : RX t n env B σ p es m lst cap u' := by
  obtain ⟨b1, b2, b3, b4, b5⟩ := S.bd
  exact ⟨S.fx, S.tx, S.cur, S.en, S.op, ⟨S.rl, S.cc⟩, S.md, S.ls, S.nm, b1, b2, b3, by omega, h2⟩
theorem RS.rx (S : RS t n 5 env B σ p c 0 vs es m lst cap u) : RX t n env B σ p es m lst cap u := ⟨S.fx, S.tx, S.cur, S.en, S.op, ⟨S.rl, S.cc⟩, S.md, S.ls, S.nm, S.bd⟩
theorem RX.gen (S : RX t n env B σ p es m lst cap u) (hF : FX ΦR τ.sh τ.r) (hs : τ.sh = σ.sh) (hi : ∀ a, a = 37 ∨ a = 5 ∨ a = 6 → τ.i a = σ.i a) (h15 : τ.i 0 15 = σ.i 0 15) (hE : EnR env' τ) {B' : Int32 × Int32 × Rf} (h34 : τ.r 0 34 = B'.2.2) (hL : τ.r 6 1 = σ.r 6 1) (hA : ∀ b, σ.r 6 1 = Rf.ptr b → τ.r b = σ.r b) {p' u' : Nat} {es' : Evs} (hC : Cur t n p' τ) (h20 : τ.i 0 20 = 0) (hR : RlR B'.1 es' τ) (h22 : τ.i 0 22 = B'.2.1) (hu : m + 2 * (n - p') ≤ u' ∧ u' ≤ 23000) : RX t n env' B' τ p' es' m lst cap u' := by
  obtain ⟨x1, x2, x3, x4⟩ := S.tx
  obtain ⟨b1, b2, b3, -⟩ := S.bd
  refine ⟨hF, ⟨x1, h15.trans x2, fun k hk => ?_, x4⟩, hC, hE, h20, ⟨hR, h22⟩, h34, S.ls.mono (fun a s q => by rw [hs]; exact q) (by rw [hi _ (by omega)]) hL hA, ?_, b1, b2, b3, hu⟩
  · rw [hi 37 (by omega)]
    exact x3 k hk
  · rw [hi 5 (by omega)]
    exact S.nm
theorem RX.lx (S : RX t n env B σ p es m lst cap u) (hF : FX ΦR τ.sh τ.r) (hX : LX σ τ) {p' u' : Nat} (hC : Cur t n p' τ) (hu : m + 2 * (n - p') ≤ u' ∧ u' ≤ 23000) : RX t n env B τ p' es m lst cap u' ∧ RF 5 0 σ τ lst cap lst cap (fun _ => False) := by
  have e0 : ∀ k, ¬ (k = 16 ∨ k = 17 ∨ k = 18 ∨ k = 19 ∨ k = 26) → τ.i 0 k = σ.i 0 k := fun k hk => hX.2.2.1 0 k (fun q => hk q.2)
  have ei : ∀ a, a ≠ 0 → τ.i a = σ.i a := fun a ha => funext fun k => hX.2.2.1 a k (fun q => ha q.1)
  have er : ∀ a, a ≠ 0 → τ.r a = σ.r a := fun a ha => funext fun k => hX.2.2.2 a k (fun q => ha q.1)
  have rk : ∀ k, ¬ rdK k → τ.i 0 k = σ.i 0 k := fun k hk => e0 k (fun q => hk (by unfold rdK; omega))
  refine ⟨S.gen hF hX.1 (fun a ha => ei a (by omega)) (e0 15 (by decide)) (S.en.mono (fun a a1 a2 => ei a (by omega)) (fun k hk => e0 k (by omega))) ((hX.2.2.2 0 34 (by decide)).trans S.md) (by rw [er 6 (by decide)]) (fun b hb => er b ?_) hC ((e0 20 (by decide)).trans S.op) (S.rl.mono (e0 23 (by decide)) (e0 24 (by decide)) (e0 27 (by decide))) ((e0 22 (by decide)).trans S.cc) hu, ⟨[], (List.append_nil _).symm, fun v hv => (by cases hv), by rw [hX.1]; exact RmL.refl _ _⟩, fun a _ h1 _ _ _ _ => ⟨ei a h1, by rw [hX.2.1], fun _ => er a h1⟩, rk, by rw [hX.2.1], fun k hk => hX.2.2.2 0 k (fun q => hk q.2), fun k hk => absurd hk (Nat.not_lt_zero _), Or.inl (by rw [er 6 (by decide)])⟩
  have := oa_ge S.fx (S.ls.arr hb)
  omega
theorem RX.wr (S : RX t n env B σ p es m lst cap u) {q : Nat} (hF : FX ΦR τ.sh τ.r) (h : Wrg σ τ q) : WR n 5 0 σ lst m cap τ q p := by
  obtain ⟨b1, b2, b3, -⟩ := S.bd
  obtain ⟨w1, w2, w3, w4⟩ := h
  exact ⟨S.pn.1, hF, σ, m, lst, cap, RF.refl _ _ _ _ _ _, S.fx, S.ls, S.nm, Nat.le_refl _, b1, b2, b3, w1, w2, w3.trans S.cur.2.1, w4⟩
theorem rx_next (hZ : ZK Z) (hd : 15 ≤ d) (S : RX t n env B σ p es m lst cap u) (hp : p < n) (k : ∀ τ, RX t n env B τ (nxS t n p) es m lst cap u → RF 5 0 σ τ lst cap lst cap (fun _ => False) → K (.inl none) τ) : B_X23_next_0 Z d σ K := by
  obtain ⟨d, rfl⟩ : ∃ e, d = e + 3 := ⟨d - 3, by omega⟩
  have hg := nxS_gt (t := t) hp
  obtain ⟨b1, b2, b3, b4, b5⟩ := S.bd
  refine rf_nxt hZ (by omega) S.fx S.tx S.cur (fun τ f1 f2 f3 => ?_)
  obtain ⟨g1, g2⟩ := S.lx f1 f2 f3 (u' := u) ⟨by omega, by omega⟩
  exact k τ g1 g2
theorem rx_want {x : Int32} {y : Nat} (hk : (x, y) ∈ mkL2) (hZ : ZK Z) (hd : 16 ≤ d) (S : RX t n env B σ p es m lst cap u) (h1 : tyS t n p = y → ∀ τ, RX t n env B τ (nxS t n p) es m lst cap u → RF 5 0 σ τ lst cap lst cap (fun _ => False) → K (.inl none) τ) (h0 : tyS t n p ≠ y → ∀ τ q, WR n 5 0 σ lst m cap τ q p → K (.inr ("DispatchHouseModel$Wrong", q)) τ) : B_X23_want_0 Z d σ x K := by
  obtain ⟨d, rfl⟩ : ∃ e, d = e + 4 := ⟨d - 4, by omega⟩
  refine rf_want hZ (by omega) S.fx S.tx S.cur (fun h τ f1 f2 f3 => ?_) (fun h τ q f1 f2 => h0 (fun z => h ((ty_mk hk S.cur).mpr z)) τ q (S.wr f1 f2))
  have hy := (ty_mk hk S.cur).mp h
  have hp : p < n := ty_pos (t := t) (by have := (mkL2_c _ hk).2.1; dsimp only at this; omega)
  have hg := nxS_gt (t := t) hp
  obtain ⟨b1, b2, b3, b4, b5⟩ := S.bd
  obtain ⟨g1, g2⟩ := S.lx f1 f2 f3 (u' := u) ⟨by omega, by omega⟩
  exact h1 hy τ g1 g2
theorem rx_skip {x y : Nat} (hk : (x, y) ∈ wdL) (hZ : ZK Z) (hd : 16 ≤ d) (S : RX t n env B σ p es m lst cap u) (h1 : tyS t n p = y → ∀ τ, RX t n env B τ (nxS t n p) es m lst cap u → RF 5 0 σ τ lst cap lst cap (fun _ => False) → K (.inl (some (.int 1))) τ) (h0 : tyS t n p ≠ y → K (.inl (some (.int 0))) σ) : B_X23_skip_0 Z d σ (Rf.old x) K := by
  obtain ⟨d, rfl⟩ : ∃ e, d = e + 4 := ⟨d - 4, by omega⟩
  have hc := wdL_c _ hk
  dsimp only at hc
  refine rf_skip hc.2.2.2 hZ (by omega) S.fx S.tx S.cur (fun h τ f1 f2 f3 => ?_) (fun h => h0 (fun z => h ((ty_wd hk S.cur).mpr z)))
  have hy := (ty_wd hk S.cur).mp h
  have hp : p < n := ty_pos (t := t) (by omega)
  have hg := nxS_gt (t := t) hp
  obtain ⟨b1, b2, b3, b4, b5⟩ := S.bd
  obtain ⟨g1, g2⟩ := S.lx f1 f2 f3 (u' := u) ⟨by omega, by omega⟩
  exact h1 hy τ g1 g2
theorem rx_is {x : Int32} {y : Nat} (hk : (x, y) ∈ mkL2) (hd : 1 ≤ d) (S : RX t n env B σ p es m lst cap u) (h1 : tyS t n p = y → K (.inl (some (.int 1))) σ) (h0 : tyS t n p ≠ y → K (.inl (some (.int 0))) σ) : B_X23_is_0 Z d σ x K := by
  obtain ⟨d, rfl⟩ : ∃ e, d = e + 1 := ⟨d - 1, by omega⟩
  exact rf_is S.fx (fun h => h1 ((ty_mk hk S.cur).mp h)) (fun h => h0 (fun z => h ((ty_mk hk S.cur).mpr z)))
theorem rx_isw {x y : Nat} (hk : (x, y) ∈ wdL) (hZ : ZK Z) (hd : 13 ≤ d) (S : RX t n env B σ p es m lst cap u) (h1 : tyS t n p = y → K (.inl (some (.int 1))) σ) (h0 : tyS t n p ≠ y → K (.inl (some (.int 0))) σ) : B_X23_is__0 Z d σ (Rf.old x) K := by
  obtain ⟨d, rfl⟩ : ∃ e, d = e + 1 := ⟨d - 1, by omega⟩
  have hc := wdL_c _ hk
  dsimp only at hc
  exact rf_isw hZ (by omega) hc.2.2.2 S.fx (cur_w S.cur) (fun h => h1 ((ty_wd hk S.cur).mp h)) (fun h => h0 (fun z => h ((ty_wd hk S.cur).mpr z)))
theorem rx_name (hZ : ZK Z) (hd : 16 ≤ d) (S : RX t n env B σ p es m lst cap u) (h1 : tyS t n p = 2 → p + lnS t n p ≤ 8192 → lnS t n p ≤ 16 → ∀ τ, RX t n env B τ (nxS t n p) es m lst cap (u - 2) → RF 5 0 σ τ lst cap lst cap (fun _ => False) → K (.inl (some (.int (Int32.ofNat (32 * p + lnS t n p))))) τ) (h0 : tyS t n p ≠ 2 → ∀ τ q, WR n 5 0 σ lst m cap τ q p → K (.inr ("DispatchHouseModel$Wrong", q)) τ) : B_X23_name_0 Z d σ K := by
  obtain ⟨d, rfl⟩ : ∃ e, d = e + 4 := ⟨d - 4, by omega⟩
  refine rf_name hZ (by omega) S.fx S.tx S.cur (fun h τ f1 f2 f3 => ?_) (fun h τ q f1 f2 => h0 (fun z => h ((ty_lo (k := 2) (Or.inl rfl) S.cur).mpr z)) τ q (S.wr f1 f2))
  have hy := (ty_lo (k := 2) (Or.inl rfl) S.cur).mp h
  obtain ⟨hp, hl, h16⟩ := ty_nm hy
  have hg := nxS_gt (t := t) hp
  obtain ⟨b1, b2, b3, b4, b5⟩ := S.bd
  obtain ⟨g1, g2⟩ := S.lx f1 f2 f3 (u' := u - 2) ⟨by omega, by omega⟩
  have hpn := S.pn
  have hln := ln_le (t := t) hpn.1
  rw [S.cur.2.1, (S.cur.2.2.2.2.2 hp hl).1, nm_mk (by omega) (by omega)]
  exact h1 hy (by omega) h16 τ g1 g2
theorem RX.brk (S : RX t n env B σ p es m lst cap u) {w r : Nat} (hw : w ≤ 8192) (hr : r ≤ 7) : RX t n env B (brS σ (Int32.ofNat r) (Int32.ofNat w)) p (es ++ [(w, r)]) m lst cap u ∧ RF 5 0 σ (brS σ (Int32.ofNat r) (Int32.ofNat w)) lst cap lst cap (fun _ => False) := by
  obtain ⟨b1, b2, b3, b4, b5⟩ := S.bd
  have hR := S.rl.br hw hr
  have hb : (brS σ (Int32.ofNat r) (Int32.ofNat w)).sh = σ.sh ∧ (brS σ (Int32.ofNat r) (Int32.ofNat w)).l = σ.l ∧ (brS σ (Int32.ofNat r) (Int32.ofNat w)).r = σ.r ∧ ∀ a k, ¬ (a = 0 ∧ (k = 23 ∨ k = 24 ∨ k = 27)) → (brS σ (Int32.ofNat r) (Int32.ofNat w)).i a k = σ.i a k := by
    rcases brS_or σ (Int32.ofNat r) (Int32.ofNat w) with e | e
    · rw [e]
      refine ⟨rfl, rfl, rfl, fun a k h => ?_⟩
      rw [wi_i, if_neg (fun q => h ⟨q.1, by omega⟩), wi_i, if_neg (fun q => h ⟨q.1, by omega⟩), wi_i, if_neg (fun q => h ⟨q.1, by omega⟩)]
    · rw [e]
      refine ⟨rfl, rfl, rfl, fun a k h => ?_⟩
      rw [wi_i, if_neg (fun q => h ⟨q.1, by omega⟩)]
  generalize brS σ (Int32.ofNat r) (Int32.ofNat w) = τ at hR hb ⊢
  obtain ⟨hs, hl, hr, hi⟩ := hb
  have ea : ∀ a, a ≠ 0 → τ.i a = σ.i a := fun a ha => funext fun k => hi a k (fun q => ha q.1)
  have e0 : ∀ k, ¬ (k = 23 ∨ k = 24 ∨ k = 27) → τ.i 0 k = σ.i 0 k := fun k hk => hi 0 k (fun q => hk q.2)
  refine ⟨S.gen (by rw [hs, hr]; exact S.fx) hs (fun a ha => ea a (by omega)) (e0 15 (by decide)) (S.en.mono (fun a a1 _ => ea a (by omega)) (fun k hk => e0 k (by omega))) (by rw [hr]; exact S.md) (by rw [hr]) (fun b _ => by rw [hr]) ?_ ((e0 20 (by decide)).trans S.op) hR ((e0 22 (by decide)).trans S.cc) ⟨b4, b5⟩, ⟨[], (List.append_nil _).symm, fun v hv => (by cases hv), by rw [hs]; exact RmL.refl _ _⟩, fun a _ h1 _ _ _ _ => ⟨ea a h1, by rw [hl], fun _ => by rw [hr]⟩, fun k hk => e0 k (fun q => hk (by unfold rdK; omega)), by rw [hl], fun k _ => by rw [hr], fun k hk => absurd hk (Nat.not_lt_zero _), Or.inl (by rw [hr])⟩
  obtain ⟨w1, w2, w3, w4, w5, w6⟩ := S.cur
  exact ⟨w1, (e0 18 (by decide)).trans w2, (e0 16 (by decide)).trans w3, (e0 17 (by decide)).trans w4, fun a b => (e0 19 (by decide)).trans (w5 a b), fun a b => ⟨(e0 26 (by decide)).trans (w6 a b).1, fun z => by rw [hr]; exact (w6 a b).2 z⟩⟩
theorem rx_breaks {w r : Nat} (hd : 1 ≤ d) (hw : w ≤ 8192) (hr : r ≤ 7) (S : RX t n env B σ p es m lst cap u) (k : ∀ τ, RX t n env B τ p (es ++ [(w, r)]) m lst cap u → RF 5 0 σ τ lst cap lst cap (fun _ => False) → K (.inl none) τ) : B_X23_breaks_0 Z d σ (Int32.ofNat r) (Int32.ofNat w) K := by
  obtain ⟨d, rfl⟩ : ∃ e, d = e + 1 := ⟨d - 1, by omega⟩
  obtain ⟨g1, g2⟩ := S.brk hw hr
  exact rf_breaks S.fx (k _ g1 g2)
theorem rx_kind (hd : 3 ≤ d) (S : RX t n env B σ p es m lst cap u) (hq : q + l ≤ 8192) (hl : l ≤ 16) (k : K (.inl (some (.int (Int32.ofInt (idx (env.1 (txN t q l))))))) σ) : B_X23_kindNamed_0 Z d σ (Int32.ofNat (32 * q + l)) K := by
  obtain ⟨d, rfl⟩ : ∃ e, d = e + 3 := ⟨d - 3, by omega⟩
  obtain ⟨ks, cs, ls, ⟨k1, k2, k3, k4, k5⟩, -⟩ := S.en
  refine rf_kindNamed S.fx k1 k2 k3 S.tx.2.2.1 (by omega) hq (fun j h1 h2 => ?_) (fun h => ?_)
  · rw [k4, fi_some h1 h2] at k
    exact k
  · rw [k4, fi_none h] at k
    exact k
theorem rx_call (hd : 3 ≤ d) (S : RX t n env B σ p es m lst cap u) (hq : q + l ≤ 8192) (hl : l ≤ 16) (k : K (.inl (some (.int (Int32.ofInt (idx (env.2.1 (txN t q l))))))) σ) : B_X23_callNamed_0 Z d σ (Int32.ofNat (32 * q + l)) K := by
  obtain ⟨d, rfl⟩ : ∃ e, d = e + 3 := ⟨d - 3, by omega⟩
  obtain ⟨ks, cs, ls, -, ⟨k1, k2, k3, k4, k5⟩, -⟩ := S.en
  refine rf_callNamed S.fx k1 k2 k3 S.tx.2.2.1 (by omega) hq (fun j h1 h2 => ?_) (fun h => ?_)
  · rw [k4, fi_some h1 h2] at k
    exact k
  · rw [k4, fi_none h] at k
    exact k
theorem rx_layer (hd : 3 ≤ d) (S : RX t n env B σ p es m lst cap u) (hq : q + l ≤ 8192) (hl : l ≤ 16) (k : K (.inl (some (.int (Int32.ofInt (idx (env.2.2.1 (txN t q l))))))) σ) : B_X23_layerNamed_0 Z d σ (Int32.ofNat (32 * q + l)) K := by
  obtain ⟨d, rfl⟩ : ∃ e, d = e + 3 := ⟨d - 3, by omega⟩
  obtain ⟨ks, cs, ls, -, -, ⟨k1, k2, k3, k4⟩, -⟩ := S.en
  refine rf_layerNamed S.fx k1 k2 k3 S.tx.2.2.1 (by omega) hq (fun j h1 h2 => ?_) (fun h => ?_)
  · rw [k4, fi_some h1 h2] at k
    exact k
  · rw [k4, fi_none h] at k
    exact k
theorem rx_lo {nv : Nat} {W : Nat → Prop} {lst' : List Nat} {cap' : Nat} (S : RX t n env B σ p es m lst cap u) (G : RF 5 nv σ τ lst cap lst' cap' W) {a : Nat} (h1 : 9 ≤ a) (h2 : a < 3365) (h3 : a ≠ 54) : τ.i a = σ.i a := by
  have hs := sh_ge S.fx
  refine (G.2.1 a (by omega) (by omega) h3 (by omega) (by omega) (fun i hi => ?_)).1
  have := nd_ge S.fx (S.ls.2.2.2.1 a (List.mem_of_getElem? hi))
  omega
end RX
section RX2
variable {t : Nat → Int32} {n : Nat} {env : Env} {B : Int32 × Int32 × Rf} {σ : Sg} {p : Nat} {es : Evs} {m : Nat} {lst : List Nat} {cap u M : Nat}
theorem RX.rs (S : RX t n env B σ p es m lst cap u) (h32 : σ.i 0 32 = 0) : ∃ c, RS t n 5 env B σ p c 0 [] es m lst cap u := by
  obtain ⟨c, hc⟩ := oN_ex (σ.i 0 21)
  exact ⟨c, S.fx, S.tx, S.cur, S.en, ⟨h32, fun k q hq => by cases hq⟩, ⟨by decide, by decide⟩, S.op, hc, ⟨S.rl, S.cc⟩, Or.inl rfl, S.md, S.ls, S.nm, S.bd⟩
theorem mf_wM (hM : MtP M) {a k : Nat} {x : Int32} (ha : M ≤ a ∧ a < M + 4) : MF 5 M σ (σ.wi a k x) lst cap lst cap (fun _ => False) := by
  have hr := hM.rg
  exact ⟨⟨[], (List.append_nil _).symm, fun v hv => (by cases hv), RmL.refl _ _⟩, fun b _ _ _ _ _ h1 _ => ⟨wi_row (by omega), rfl, fun _ => rfl⟩, fun j _ _ _ => wi_ne (by omega), rfl, fun _ _ _ => rfl, Or.inl rfl⟩
theorem mf_wrM (hM : MtP M) {k : Nat} {x : Rf} : MF 5 M σ (σ.wr M k x) lst cap lst cap (fun _ => False) := by
  have hr := hM.rg
  exact ⟨⟨[], (List.append_nil _).symm, fun v hv => (by cases hv), RmL.refl _ _⟩, fun b _ _ _ _ _ h1 _ => ⟨rfl, rfl, fun _ => wr_row (by omega)⟩, fun j _ _ _ => rfl, rfl, fun j _ _ => wr_ne (by omega), Or.inl (wr_ne (by omega))⟩
end RX2

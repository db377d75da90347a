/-! THE REFERENCE'S READER: names looked up, Nodes taken and written, trees -/
section LOOK
variable {Z : zT} {d : Nat} {t : Nat → Int32} {n N : Nat} {env : Env} {B : Int32 × Int32 × Rf} {σ τ : Sg} {p c o : Nat} {vs : List (Nat × Nat)} {es : Evs} {m : Nat} {lst : List Nat} {cap u : Nat} {K : kS} {q l : Nat}
theorem fi_some {ns : List (List Int32)} {nm : List Int32} {k : Nat} (h1 : ns[k]? = some nm) (h2 : ∀ j, j < k → ns[j]? ≠ some nm) : ns.findIdx? (· == nm) = some k := by
  obtain ⟨hk, e⟩ := List.getElem?_eq_some_iff.mp h1
  rw [List.findIdx?_eq_some_iff_getElem]
  refine ⟨hk, beq_iff_eq.mpr e, fun j hj z => h2 j hj ?_⟩
  rw [List.getElem?_eq_getElem (by omega)]
  exact congrArg some (beq_iff_eq.mp z)
theorem fi_none {ns : List (List Int32)} {nm : List Int32} (h : nm ∉ ns) : ns.findIdx? (· == nm) = none := by
  rw [List.findIdx?_eq_none_iff]
  intro x hx
  rw [beq_eq_false_iff_ne]
  exact fun z => h (z ▸ hx)
theorem rs_kind (hd : 3 ≤ d) (S : RS t n N env B σ p c o vs es m lst cap u) (hq : q + l ≤ 8192) (hl : l ≤ 16) (k : K (.inl (some (.int (Int32.ofInt (idx (env.1 (txN t q l))))))) σ) : B_X23_kindNamed_0 Z d σ (Int32.ofNat (32 * q + l)) K := by
  obtain ⟨d, rfl⟩ : ∃ e, d = e + 3 := ⟨d - 3, by omega⟩
  obtain ⟨ks, cs, ls, ⟨k1, k2, k3, k4, k5⟩, -⟩ := S.en
  refine rf_kindNamed S.fx k1 k2 k3 S.tx.2.2.1 (by omega) hq (fun j h1 h2 => ?_) (fun h => ?_)
  · rw [k4, fi_some h1 h2] at k
    exact k
  · rw [k4, fi_none h] at k
    exact k
theorem rs_call (hd : 3 ≤ d) (S : RS t n N env B σ p c o vs es m lst cap u) (hq : q + l ≤ 8192) (hl : l ≤ 16) (k : K (.inl (some (.int (Int32.ofInt (idx (env.2.1 (txN t q l))))))) σ) : B_X23_callNamed_0 Z d σ (Int32.ofNat (32 * q + l)) K := by
  obtain ⟨d, rfl⟩ : ∃ e, d = e + 3 := ⟨d - 3, by omega⟩
  obtain ⟨ks, cs, ls, -, ⟨k1, k2, k3, k4, k5⟩, -⟩ := S.en
  refine rf_callNamed S.fx k1 k2 k3 S.tx.2.2.1 (by omega) hq (fun j h1 h2 => ?_) (fun h => ?_)
  · rw [k4, fi_some h1 h2] at k
    exact k
  · rw [k4, fi_none h] at k
    exact k
theorem rs_layer (hd : 3 ≤ d) (S : RS t n N env B σ p c o vs es m lst cap u) (hq : q + l ≤ 8192) (hl : l ≤ 16) (k : K (.inl (some (.int (Int32.ofInt (idx (env.2.2.1 (txN t q l))))))) σ) : B_X23_layerNamed_0 Z d σ (Int32.ofNat (32 * q + l)) K := by
  obtain ⟨d, rfl⟩ : ∃ e, d = e + 3 := ⟨d - 3, by omega⟩
  obtain ⟨ks, cs, ls, -, -, ⟨k1, k2, k3, k4⟩, -⟩ := S.en
  refine rf_layerNamed S.fx k1 k2 k3 S.tx.2.2.1 (by omega) hq (fun j h1 h2 => ?_) (fun h => ?_)
  · rw [k4, fi_some h1 h2] at k
    exact k
  · rw [k4, fi_none h] at k
    exact k
/-- isSame(): the same letters -/
theorem rf_isSame {q' l' : Nat} (F : FX ΦR σ.sh σ.r) (ht : ∀ k, k < 8192 → σ.i 37 k = t k) (hq : q + l ≤ 8192) (hl : l ≤ 16) (hq' : q' + l' ≤ 8192) (hl' : l' ≤ 16) (h1 : txN t q l = txN t q' l' → K (.inl (some (.int 1))) σ) (h0 : txN t q l ≠ txN t q' l' → K (.inl (some (.int 0))) σ) : B_X23_isSame_0 Z (d + 1) σ (Int32.ofNat (32 * q + l)) (Int32.ofNat (32 * q' + l')) K := by
  refine S_X23_isSame_0 F ?_
  rw [nm_l (by omega) (by omega), nm_l (by omega) (by omega)]
  refine ⟨fun e => ?_, fun e => h0 fun z => e ?_⟩
  · have e : l = l' := (oN_eq (by omega) (by omega)).mp e
    subst e
    have lp : ∀ j k, l - k = j → k ≤ l → (∀ i, i < k → t (q + i) = t (q' + i)) → B_X23_isSame_15 Z (d + 1) σ (Int32.ofNat (32 * q + l)) (Int32.ofNat (32 * q' + l)) (Int32.ofNat k) K := by
      intro j
      induction j with
      | zero =>
        intro k hj hk hs
        have e : k = l := by omega
        subst e
        refine S_X23_isSame_15 F ?_
        rw [nm_l (by omega) (by omega)]
        refine ⟨fun _ => h1 ?_, fun z => absurd (Int32.le_refl _) z⟩
        unfold txN
        exact List.map_congr_left fun i hi => hs i (List.mem_range.mp hi)
      | succ j ih =>
        intro k hj hk hs
        refine S_X23_isSame_15 F ?_
        rw [nm_l (by omega) (by omega), nm_p (by omega) (by omega), nm_p (by omega) (by omega), oN_add, oN_add, oN_t (by omega), oN_t (by omega), ht _ (by omega), ht _ (by omega)]
        refine ⟨fun z => ?_, fun _ => ⟨ib_oN (by omega) (by decide), ib_oN (by omega) (by decide), fun z => ?_, fun z => h0 fun y => z ?_⟩⟩
        · have := (oN_le (by omega) (by omega)).mp z
          omega
        · rw [oN_1]
          refine ih (k + 1) (by omega) (by omega) (fun i hi => ?_)
          by_cases q2 : i = k
          · rw [q2]
            exact z
          · exact hs i (by omega)
        · have y2 := congrArg (fun x => x[k]?) y
          rw [txN_get t q (by omega), txN_get t q' (by omega)] at y2
          exact Option.some.inj y2
    exact lp l 0 (by omega) (by omega) (fun i hi => by omega)
  · have z2 := congrArg List.length z
    rw [txN_len, txN_len] at z2
    rw [z2]
/-- a Node's number written -/
theorem RS.nwi (S : RS t n N env B σ p c o vs es m lst cap u) {i v k : Nat} {x : Int32} (hv : lst[i]? = some v) : RS t n N env B (σ.wi v k x) p c o vs es m lst cap u ∧ RF N vs.length σ (σ.wi v k x) lst cap lst cap (fun j => j = i) := by
  have hv2 := S.ls.2.2.2.1 v (List.mem_of_getElem? hv)
  have hge := nd_ge S.fx hv2
  obtain ⟨b1, b2, b3, b4, b5⟩ := S.bd
  have e0 : ∀ j, (σ.wi v k x).i 0 j = σ.i 0 j := fun j => wi_ne (by omega)
  refine ⟨S.upd (τ := σ.wi v k x) S.fx rfl (fun a h1 h2 _ => wi_row (by omega)) (fun j _ => e0 j) rfl rfl (fun _ _ => rfl) ?_ (S.vr.mono (e0 32) (fun j _ => wi_ne (by omega))) S.vo ((e0 20).trans S.op) ((e0 21).trans S.ct) (S.rl.mono (e0 23) (e0 24) (e0 27)) ((e0 22).trans S.cc) ⟨b4, b5⟩, ?_⟩
  · obtain ⟨h1, h2, h3, h4, h5, h6⟩ := S.cur
    exact ⟨h1, (e0 18).trans h2, (e0 16).trans h3, (e0 17).trans h4, fun a b => (e0 19).trans (h5 a b), fun a b => ⟨(e0 26).trans (h6 a b).1, (h6 a b).2⟩⟩
  · exact ⟨⟨[], (List.append_nil _).symm, fun v hv => (by cases hv), RmL.refl _ _⟩, fun a _ h1 _ _ _ h2 => ⟨wi_row (fun z => h2 i (z ▸ hv) rfl), rfl, fun _ => rfl⟩, fun j _ => e0 j, rfl, fun _ _ => rfl, fun j _ => wi_ne (by omega), Or.inl rfl⟩
/-- a Node's part written -/
theorem RS.nwr (S : RS t n N env B σ p c o vs es m lst cap u) {i v k : Nat} {x : Rf} (hv : lst[i]? = some v) : RS t n N env B (σ.wr v k x) p c o vs es m lst cap u ∧ RF N vs.length σ (σ.wr v k x) lst cap lst cap (fun j => j = i) := by
  have hv2 := S.ls.2.2.2.1 v (List.mem_of_getElem? hv)
  have hge := nd_ge S.fx hv2
  obtain ⟨b1, b2, b3, b4, b5⟩ := S.bd
  have hN : N + 1 ≠ v := by rcases S.nn with q | q <;> omega
  refine ⟨S.upd (τ := σ.wr v k x) (FX.w (a := v) (k := k) (v := x) S.fx (cD (k := k) S.fx hv2 rfl)) rfl (fun a _ _ _ => rfl) (fun j _ => rfl) (wr_ne (by omega)) (wr_ne (by omega)) (fun b hb => wr_row (fun z => ?_)) ?_ (S.vr.mono rfl (fun j _ => rfl)) S.vo S.op S.ct (S.rl.mono rfl rfl rfl) S.cc ⟨b4, b5⟩, ?_⟩
  · have := S.ls.arr hb
    rw [z, hv2] at this
    cases this
  · obtain ⟨h1, h2, h3, h4, h5, h6⟩ := S.cur
    exact ⟨h1, h2, h3, h4, h5, fun a b => ⟨(h6 a b).1, fun z => (wr_ne (by omega)).trans ((h6 a b).2 z)⟩⟩
  · exact ⟨⟨[], (List.append_nil _).symm, fun v hv => (by cases hv), RmL.refl _ _⟩, fun a _ h1 _ _ _ h2 => ⟨rfl, rfl, fun _ => wr_row (fun z => h2 i (z ▸ hv) rfl)⟩, fun j _ => rfl, rfl, fun j _ => wr_ne (by omega), fun j _ => rfl, Or.inl (wr_ne (by omega))⟩
/-- get(): one Node more in use -/
theorem rs_get {op : Int32} (hd : 7 ≤ d) (S : RS t n N env B σ p c o vs es m lst cap u) (hu : u + 1 ≤ 23000) (k : ∀ τ lst' cap' v, RS t n N env B τ p c o vs es (m + 1) lst' cap' (u + 1) → RF N vs.length σ τ lst cap lst' cap' (fun i => i = m) → lst'[m]? = some v → NdN τ v op → K (.inl (some (.ref v))) τ) : B_X21_get_0 Z d σ N op K := by
  obtain ⟨d, rfl⟩ : ∃ e, d = e + 7 := ⟨d - 7, by omega⟩
  obtain ⟨b1, b2, b3, b4, b5⟩ := S.bd
  refine rf_get S.fx S.n22 S.ls (by omega) S.nm b1 (fun τ lst' cap' v Ft L hv hG hm hN hFr => ?_)
  have hv2 := L.2.2.2.1 v (List.mem_of_getElem? hv)
  have hge := nd_ge Ft hv2
  obtain ⟨f1, f2, f3⟩ := hFr
  have hNN : (N = 5 ∨ N = 7) := S.nn
  have hs := sh_ge S.fx
  have hpt : ∀ a, a < 3365 → σ.r (N + 1) 1 ≠ Rf.ptr a := fun a ha z => by
    have := oa_ge S.fx (S.ls.arr z)
    omega
  have lo : ∀ a, a < 3365 → a ≠ N → a ≠ N + 1 → τ.i a = σ.i a ∧ τ.r a = σ.r a := fun a h1 h2 h3 => ⟨(f1 a (by omega) h2 h3 (by omega)).1, (f1 a (by omega) h2 h3 (by omega)).2 (hpt a h1)⟩
  obtain ⟨e0, e0r⟩ := lo 0 (by omega) (by omega) (by omega)
  have hmore : ∃ more, lst' = lst ++ more ∧ (∀ v ∈ more, σ.sh.length ≤ v) ∧ RmL σ.sh τ.sh more.length cap cap' ∧ lst'.length ≤ 23400 ∧ cap' ≤ 2 * lst'.length + 10 := by
    rcases hG with ⟨g1, g2, g3, g4⟩ | ⟨g1, g2, g3⟩
    · subst g2 g3
      exact ⟨[], (List.append_nil _).symm, fun v hv => (by cases hv), by rw [g4]; exact RmL.refl _ _, b2, b3⟩
    · have hlen : lst'.length = lst.length + 1 := by
        rw [g2, List.length_append]
        rfl
      refine ⟨[σ.sh.length], g2, fun v hv => by rw [List.mem_singleton] at hv; omega, ?_, by omega, ?_⟩
      · rcases g3 with ⟨g3, g4, g5⟩ | ⟨g3, g4, g5⟩
        · exact ⟨[Sh.obj 21], g5, by show 1 ≤ 2 * 1; omega, by show 12 + 3 * cap ≤ 13 * 1 + 3 * cap'; omega⟩
        · refine ⟨[Sh.obj 21, Sh.arr 14 cap'], g5, by show 2 ≤ 2 * 1; omega, ?_⟩
          show 12 + (cap' + 0) + 3 * cap ≤ 13 * 1 + 3 * cap'
          unfold nxc at g4
          split at g4 <;> omega
      · rcases g3 with ⟨g3, g4, g5⟩ | ⟨g3, g4, g5⟩
        · omega
        · unfold nxc at g4
          split at g4 <;> omega
  have hvm : ∀ a, a < σ.sh.length → (∀ i : Nat, lst[i]? = some a → ¬ i = m) → a ≠ v := by
    intro a h1 h2 z
    rcases hG with ⟨g1, g2, g3, g4⟩ | ⟨g1, g2, g3⟩
    · rw [g2, ← z] at hv
      exact h2 m hv rfl
    · rw [g2, g1, List.getElem?_append_right (Nat.le_refl _), Nat.sub_self] at hv
      have : σ.sh.length = v := Option.some.inj hv
      omega
  obtain ⟨more, m1, m2, m3, m4, m5⟩ := hmore
  obtain ⟨x1, x2, x3, x4⟩ := S.tx
  refine k τ lst' cap' v ⟨Ft, ⟨x1, by rw [e0]; exact x2, fun j hj => ?_, x4⟩, ?_, S.en.mono (fun a h1 h2 => (lo a (by omega) (by omega) (by omega)).1) (fun j _ => by rw [e0]), S.vr.mono (by rw [e0]) (fun j _ => by rw [(lo 54 (by omega) (by omega) (by omega)).1]), S.vo, by rw [e0]; exact S.op, by rw [e0]; exact S.ct, ⟨S.rl.mono (by rw [e0]) (by rw [e0]) (by rw [e0]), by rw [e0]; exact S.cc⟩, hNN, by rw [e0r]; exact S.md, L, hm, ?_, m4, m5, by omega, hu⟩ ⟨⟨more, m1, m2, m3⟩, fun a h1 h2 h3 h4 h5 h6 => ?_, fun j _ => by rw [e0], f2 0 (by omega) (by omega), fun j _ => by rw [e0r], fun j _ => by rw [(lo 54 (by omega) (by omega) (by omega)).1], ?_⟩ hv hN
  · rw [(lo 37 (by omega) (by omega) (by omega)).1]
    exact x3 j hj
  · obtain ⟨h1, h2, h3, h4, h5, h6⟩ := S.cur
    unfold Cur
    rw [e0, e0r]
    exact ⟨h1, h2, h3, h4, h5, h6⟩
  · have := (List.getElem?_eq_some_iff.mp hv).1
    omega
  · have hne := hvm a h1 h6
    obtain ⟨q1, q2⟩ := f1 a h1 h4 h5 hne
    exact ⟨q1, f2 a h1 hne, q2⟩
  · rcases f3 with q | q
    · exact Or.inl q
    · exact Or.inr ⟨_, by omega, q⟩
end LOOK
/-- the letter of a sign -/
def chV (k : Nat) : Int32 := match mkL2.find? (fun q => q.2 == k) with
  | some q => q.1
  | none => 0
theorem chV_c : ∀ q ∈ mkL2, chV q.2 = q.1 := by decide
/-- a Node's numbers -/
def ndF (σ : Sg) (x op : Nat) (v w : Int) : Prop := (op < 39 → σ.i x 0 = Int32.ofNat op) ∧ (op = 1 ∨ op = 5 ∨ op = 12 → σ.i x 2 = Int32.ofInt v) ∧ (op = 3 ∨ op = 4 ∨ op = 9 ∨ op = 11 ∨ op = 13 ∨ op = 14 → σ.i x 1 = Int32.ofInt v) ∧ (op = 8 → σ.i x 3 = chV v.toNat) ∧ (op = 10 ∨ op = 13 ∨ op = 14 ∨ op = 15 → σ.i x 4 = Int32.ofInt w) ∧ (39 ≤ op → σ.i x 3 = chV (op - 30))
/-- r is that tree, all its Nodes in A -/
def TrN (σ : Sg) (A : Nat → Prop) : Ast → Rf → Prop
  | .nil, r => r = Rf.nul
  | .tag op (.nest v (.nest w (.append a (.append b c)))), r => ∃ x, r = Rf.ptr x ∧ A x ∧ σ.sh[x]? = some (Sh.obj 21) ∧ ndF σ x op v w ∧ TrN σ A a (σ.r x 5) ∧ TrN σ A b (σ.r x (if op = 10 ∨ 39 ≤ op then 8 else 6)) ∧ TrN σ A c (σ.r x 7)
  | _, _ => False
theorem TrN_aN (σ : Sg) (A : Nat → Prop) (op : Nat) (v w : Int) (a b c : Ast) (r : Rf) : TrN σ A (aN op v w a b c) r = ∃ x, r = Rf.ptr x ∧ A x ∧ σ.sh[x]? = some (Sh.obj 21) ∧ ndF σ x op v w ∧ TrN σ A a (σ.r x 5) ∧ TrN σ A b (σ.r x (if op = 10 ∨ 39 ≤ op then 8 else 6)) ∧ TrN σ A c (σ.r x 7) := rfl
theorem TrN.mono {σ τ : Sg} {A A' : Nat → Prop} (hA : ∀ x, A x → σ.sh[x]? = some (Sh.obj 21) → A' x ∧ τ.sh[x]? = some (Sh.obj 21) ∧ τ.i x = σ.i x ∧ τ.l x = σ.l x ∧ τ.r x = σ.r x) : ∀ (x : Ast) (r : Rf), TrN σ A x r → TrN τ A' x r
  | .nil, r, h => h
  | .tag op (.nest v (.nest w (.append a (.append b c)))), r, h => by
    obtain ⟨x, h1, h2, h3, h4, h5, h6, h7⟩ := h
    obtain ⟨q1, q2, q3, q4, q5⟩ := hA x h2 h3
    refine ⟨x, h1, q1, q2, ?_, ?_, ?_, ?_⟩
    · unfold ndF at h4 ⊢
      rw [q3]
      exact h4
    · rw [q5]
      exact TrN.mono hA a _ h5
    · rw [q5]
      exact TrN.mono hA b _ h6
    · rw [q5]
      exact TrN.mono hA c _ h7
  | .line, r, h => h.elim
  | .align _, r, h => h.elim
  | .text _, r, h => h.elim
  | .nest _ _, r, h => h.elim
  | .append _ _, r, h => h.elim
  | .group _ _, r, h => h.elim
  | .tag _ .nil, r, h => h.elim
  | .tag _ .line, r, h => h.elim
  | .tag _ (.align _), r, h => h.elim
  | .tag _ (.text _), r, h => h.elim
  | .tag _ (.append _ _), r, h => h.elim
  | .tag _ (.group _ _), r, h => h.elim
  | .tag _ (.tag _ _), r, h => h.elim
  | .tag _ (.nest _ .nil), r, h => h.elim
  | .tag _ (.nest _ .line), r, h => h.elim
  | .tag _ (.nest _ (.align _)), r, h => h.elim
  | .tag _ (.nest _ (.text _)), r, h => h.elim
  | .tag _ (.nest _ (.append _ _)), r, h => h.elim
  | .tag _ (.nest _ (.group _ _)), r, h => h.elim
  | .tag _ (.nest _ (.tag _ _)), r, h => h.elim
  | .tag _ (.nest _ (.nest _ .nil)), r, h => h.elim
  | .tag _ (.nest _ (.nest _ .line)), r, h => h.elim
  | .tag _ (.nest _ (.nest _ (.align _))), r, h => h.elim
  | .tag _ (.nest _ (.nest _ (.text _))), r, h => h.elim
  | .tag _ (.nest _ (.nest _ (.nest _ _))), r, h => h.elim
  | .tag _ (.nest _ (.nest _ (.group _ _))), r, h => h.elim
  | .tag _ (.nest _ (.nest _ (.tag _ _))), r, h => h.elim
  | .tag _ (.nest _ (.nest _ (.append _ .nil))), r, h => h.elim
  | .tag _ (.nest _ (.nest _ (.append _ .line))), r, h => h.elim
  | .tag _ (.nest _ (.nest _ (.append _ (.align _)))), r, h => h.elim
  | .tag _ (.nest _ (.nest _ (.append _ (.text _)))), r, h => h.elim
  | .tag _ (.nest _ (.nest _ (.append _ (.nest _ _)))), r, h => h.elim
  | .tag _ (.nest _ (.nest _ (.append _ (.group _ _)))), r, h => h.elim
  | .tag _ (.nest _ (.nest _ (.append _ (.tag _ _)))), r, h => h.elim
/-- the Nodes of the list from the a-th to the b-th -/
def Rg (lst : List Nat) (a b : Nat) (x : Nat) : Prop := ∃ i, a ≤ i ∧ i < b ∧ lst[i]? = some x
theorem nd_keep {t : Nat → Int32} {n N nv : Nat} {env : Env} {B : Int32 × Int32 × Rf} {σ τ : Sg} {p c o : Nat} {vs : List (Nat × Nat)} {es : Evs} {m : Nat} {lst lst' : List Nat} {cap cap' u : Nat} {W : Nat → Prop} (S : RS t n N env B σ p c o vs es m lst cap u) (G : RF N nv σ τ lst cap lst' cap' W) {i v : Nat} (hv : lst[i]? = some v) (hw : ¬ W i) : τ.sh[v]? = some (Sh.obj 21) ∧ τ.i v = σ.i v ∧ τ.l v = σ.l v ∧ τ.r v = σ.r v := by
  have hv2 := S.ls.2.2.2.1 v (List.mem_of_getElem? hv)
  have hge := nd_ge S.fx hv2
  have hNN := S.nn
  obtain ⟨⟨x, h1, h2, h3⟩, h4, -⟩ := G
  obtain ⟨g1, g2, g3⟩ := h4 v (List.getElem?_eq_some_iff.mp hv2).1 (by omega) (by omega) (by omega) (by omega) (fun j hj => by
    obtain ⟨i1, i2⟩ := List.getElem?_eq_some_iff.mp hv
    obtain ⟨j1, j2⟩ := List.getElem?_eq_some_iff.mp hj
    have : i = j := (List.getElem_inj S.ls.2.2.2.2.1).mp (i2.trans j2.symm)
    rw [← this]
    exact hw)
  refine ⟨h3.get hv2, g1, g2, g3 fun z => ?_⟩
  have := S.ls.arr z
  rw [hv2] at this
  cases this
/-- a tree whose Nodes are left as they were -/
theorem TrN.fr {t : Nat → Int32} {n N nv : Nat} {env : Env} {B : Int32 × Int32 × Rf} {σ τ : Sg} {p c o : Nat} {vs : List (Nat × Nat)} {es : Evs} {m : Nat} {lst lst' : List Nat} {cap cap' u a b : Nat} {x : Ast} {r : Rf} {W : Nat → Prop} (T : TrN σ (Rg lst a b) x r) (S : RS t n N env B σ p c o vs es m lst cap u) (G : RF N nv σ τ lst cap lst' cap' W) (hW : ∀ i, a ≤ i → i < b → ¬ W i) : TrN τ (Rg lst' a b) x r := by
  refine T.mono (fun y hy hs => ?_)
  obtain ⟨i, i1, i2, i3⟩ := hy
  obtain ⟨g1, g2, g3, g4⟩ := nd_keep S G i3 (hW i i1 i2)
  exact ⟨⟨i, i1, i2, G.pre i y i3⟩, g1, g2, g3, g4⟩
theorem TrN.wk {σ : Sg} {lst : List Nat} {a b a' b' : Nat} {x : Ast} {r : Rf} (T : TrN σ (Rg lst a b) x r) (h1 : a' ≤ a) (h2 : b ≤ b') : TrN σ (Rg lst a' b') x r := by
  refine T.mono (fun y hy hs => ⟨?_, hs, rfl, rfl, rfl⟩)
  obtain ⟨i, i1, i2, i3⟩ := hy
  exact ⟨i, by omega, by omega, i3⟩

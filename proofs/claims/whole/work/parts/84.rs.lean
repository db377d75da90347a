/-! THE REFERENCE'S READER: its state, what stays -/
def slS : Sh → Nat
  | .inl ci => (sg_ft ci).length
  | .inr (.inl (_, n)) => n
  | .inr (.inr n) => n
def szS (sh : List Sh) : Nat := (sh.map slS).sum
theorem szS_app (a b : List Sh) : szS (a ++ b) = szS a + szS b := by
  unfold szS
  rw [List.map_append, List.sum_append]
/-- the room that k new Nodes take -/
def RmL (sh sh' : List Sh) (k cap cap' : Nat) : Prop := ∃ ext, sh' = sh ++ ext ∧ ext.length ≤ 2 * k ∧ szS ext + 3 * cap ≤ 13 * k + 3 * cap'
theorem RmL.refl (sh : List Sh) (cap : Nat) : RmL sh sh 0 cap cap := ⟨[], (List.append_nil _).symm, Nat.le_refl _, by show 0 + _ ≤ _; omega⟩
theorem RmL.trans {a b c : List Sh} {j k x y z : Nat} (h : RmL a b j x y) (g : RmL b c k y z) : RmL a c (j + k) x z := by
  obtain ⟨e1, h1, h2, h3⟩ := h
  obtain ⟨e2, g1, g2, g3⟩ := g
  refine ⟨e1 ++ e2, by rw [g1, h1, List.append_assoc], by rw [List.length_append]; omega, by rw [szS_app]; omega⟩
theorem RmL.get {a b : List Sh} {k x y : Nat} (h : RmL a b k x y) {q : Nat} {s : Sh} (hs : a[q]? = some s) : b[q]? = some s := by
  obtain ⟨e, h1, -, -⟩ := h
  rw [h1, List.getElem?_append_left (List.getElem?_eq_some_iff.mp hs).1]
  exact hs
theorem RmL.len {a b : List Sh} {k x y : Nat} (h : RmL a b k x y) : a.length ≤ b.length := by
  obtain ⟨e, h1, -, -⟩ := h
  rw [h1, List.length_append]
  omega
/-- the reader's own numbers -/
abbrev rdK (k : Nat) : Prop := (16 ≤ k ∧ k ≤ 24) ∨ k = 26 ∨ k = 27 ∨ k = 32
/-- what reading leaves as it was: N the Nodes in use, nv variables; W the Nodes of the list (by their places there) that may be another -/
def RF (N nv : Nat) (σ τ : Sg) (lst : List Nat) (cap : Nat) (lst' : List Nat) (cap' : Nat) (W : Nat → Prop) : Prop :=
  (∃ more, lst' = lst ++ more ∧ (∀ v ∈ more, σ.sh.length ≤ v) ∧ RmL σ.sh τ.sh more.length cap cap') ∧
  (∀ a, a < σ.sh.length → a ≠ 0 → a ≠ 54 → a ≠ N → a ≠ N + 1 → (∀ i : Nat, lst[i]? = some a → ¬ W i) → τ.i a = σ.i a ∧ τ.l a = σ.l a ∧ (σ.r (N + 1) 1 ≠ Rf.ptr a → τ.r a = σ.r a)) ∧
  (∀ k, ¬ rdK k → τ.i 0 k = σ.i 0 k) ∧ τ.l 0 = σ.l 0 ∧ (∀ k, k ≠ 25 → τ.r 0 k = σ.r 0 k) ∧ (∀ k, k < nv → τ.i 54 k = σ.i 54 k) ∧
  (τ.r (N + 1) 1 = σ.r (N + 1) 1 ∨ ∃ a, σ.sh.length ≤ a ∧ τ.r (N + 1) 1 = Rf.ptr a)
section RF
variable {N nv : Nat} {σ τ υ : Sg} {lst lst' lst2 : List Nat} {cap cap' cap2 : Nat} {W W' : Nat → Prop}
theorem RF.refl (N nv : Nat) (σ : Sg) (lst : List Nat) (cap : Nat) (W : Nat → Prop) : RF N nv σ σ lst cap lst cap W := ⟨⟨[], (List.append_nil _).symm, fun v hv => (by cases hv), RmL.refl _ _⟩, fun a _ _ _ _ _ _ => ⟨rfl, rfl, fun _ => rfl⟩, fun _ _ => rfl, rfl, fun _ _ => rfl, fun _ _ => rfl, Or.inl rfl⟩
theorem RF.tr {nv' : Nat} (h : RF N nv σ τ lst cap lst' cap' W) (g : RF N nv' τ υ lst' cap' lst2 cap2 W') (hW : ∀ i, W' i → W i) (hv : nv ≤ nv') : RF N nv σ υ lst cap lst2 cap2 W := by
  obtain ⟨⟨x1, h1, h2, h3⟩, h4, h5, h6, h7, h8, h9⟩ := h
  obtain ⟨⟨x2, g1, g2, g3⟩, g4, g5, g6, g7, g8, g9⟩ := g
  have hl := h3.len
  refine ⟨⟨x1 ++ x2, by rw [g1, h1, List.append_assoc], fun v hv => ?_, by rw [List.length_append]; exact h3.trans g3⟩, fun a a1 a2 a3 a4 a5 a6 => ?_, fun k hk => (g5 k hk).trans (h5 k hk), g6.trans h6, fun k hk => (g7 k hk).trans (h7 k hk), fun k hk => (g8 k (by omega)).trans (h8 k hk), ?_⟩
  · rcases List.mem_append.mp hv with q | q
    · exact h2 v q
    · exact Nat.le_trans hl (g2 v q)
  · have hn : ∀ i : Nat, lst'[i]? = some a → ¬ W' i := by
      intro i q z
      rw [h1] at q
      by_cases hi : i < lst.length
      · rw [List.getElem?_append_left hi] at q
        exact a6 i q (hW i z)
      · rw [List.getElem?_append_right (by omega)] at q
        have := h2 a (List.mem_of_getElem? q)
        omega
    obtain ⟨b1, b2, b3⟩ := h4 a a1 a2 a3 a4 a5 a6
    obtain ⟨c1, c2, c3⟩ := g4 a (by omega) a2 a3 a4 a5 hn
    refine ⟨c1.trans b1, c2.trans b2, fun q => (c3 fun z => ?_).trans (b3 q)⟩
    rcases h9 with w | ⟨w, w1, w2⟩
    · exact q (w.symm.trans z)
    · rw [z] at w2
      cases w2
      omega
  · rcases g9 with w | ⟨w, w1, w2⟩
    · rcases h9 with y | ⟨y, y1, y2⟩
      · exact Or.inl (w.trans y)
      · exact Or.inr ⟨y, y1, w.trans y2⟩
    · exact Or.inr ⟨w, by omega, w2⟩
theorem RF.wk {nv' : Nat} (h : RF N nv' σ τ lst cap lst' cap' W') (hW : ∀ i, W' i → W i) (hv : nv ≤ nv') : RF N nv σ τ lst cap lst' cap' W := (RF.refl N nv σ lst cap W).tr h hW hv
theorem RF.pre (h : RF N nv σ τ lst cap lst' cap' W) : ∀ (i v : Nat), lst[i]? = some v → lst'[i]? = some v := by
  obtain ⟨⟨x, h1, -, -⟩, -⟩ := h
  intro i v q
  rw [h1, List.getElem?_append_left (List.getElem?_eq_some_iff.mp q).1]
  exact q
end RF
/-- what is broken first -/
def lsA (acc : Option (Nat × Nat)) (e : Nat × Nat) : Option (Nat × Nat) := match acc with
  | none => some e
  | some w => if e.1 < w.1 ∨ (e.1 = w.1 ∧ e.2 < w.2) then some e else some w
def lsE (es : Evs) : Option (Nat × Nat) := es.foldl lsA none
theorem lsE_snoc (es : Evs) (e : Nat × Nat) : lsE (es ++ [e]) = lsA (lsE es) e := by
  unfold lsE
  rw [List.foldl_append]
  rfl
def RlR (B : Int32) (es : Evs) (σ : Sg) : Prop := (∀ e ∈ es, e.1 ≤ 8192 ∧ e.2 ≤ 7) ∧ σ.i 0 27 = B + Int32.ofNat es.length ∧ match lsE es with
  | none => σ.i 0 23 = -1 ∧ σ.i 0 24 = 0
  | some w => σ.i 0 23 = Int32.ofNat w.1 ∧ σ.i 0 24 = Int32.ofNat w.2
theorem lsE_mem : ∀ (es : Evs) (w : Nat × Nat), lsE es = some w → w ∈ es := by
  have key : ∀ (es : Evs) (acc : Option (Nat × Nat)) (w : Nat × Nat), es.foldl lsA acc = some w → acc = some w ∨ w ∈ es := by
    intro es
    induction es with
    | nil => exact fun acc w h => Or.inl h
    | cons e es ih =>
      intro acc w h
      rcases ih _ _ h with q | q
      · unfold lsA at q
        split at q
        · cases q
          exact Or.inr (List.mem_cons_self ..)
        · split at q
          · cases q
            exact Or.inr (List.mem_cons_self ..)
          · exact Or.inl q
      · exact Or.inr (List.mem_cons_of_mem _ q)
  intro es w h
  rcases key es none w h with q | q
  · cases q
  · exact q
theorem RlR.br {B : Int32} {es : Evs} {σ : Sg} (h : RlR B es σ) {w r : Nat} (hw : w ≤ 8192) (hr : r ≤ 7) : RlR B (es ++ [(w, r)]) (brS σ (Int32.ofNat r) (Int32.ofNat w)) := by
  obtain ⟨h1, h2, h3⟩ := h
  refine ⟨fun e he => ?_, ?_, ?_⟩
  · rcases List.mem_append.mp he with q | q
    · exact h1 e q
    · rw [List.mem_singleton] at q
      subst q
      exact ⟨hw, hr⟩
  · have e : (brS σ (Int32.ofNat r) (Int32.ofNat w)).i 0 27 = σ.i 0 27 + 1 := by
      unfold brS
      split
      · simp only [wi_i, wi_r, wi_l, wi_sh, wr_i, wr_l, wr_sh, wr_r, wi_wi, Nat.reduceEqDiff, eq_self, reduceCtorEq, and_true, and_false, true_and, false_and, and_self, reduceIte, if_true, if_false]
      · simp only [wi_i, wi_r, wi_l, wi_sh, wr_i, wr_l, wr_sh, wr_r, wi_wi, Nat.reduceEqDiff, eq_self, reduceCtorEq, and_true, and_false, true_and, false_and, and_self, reduceIte, if_true, if_false]
    rw [e, h2, List.length_append]
    show B + Int32.ofNat es.length + 1 = B + Int32.ofNat (es.length + 1)
    rw [← oN_1, Int32.add_assoc]
  · rw [lsE_snoc]
    cases hl : lsE es with
    | none =>
      rw [hl] at h3
      have : brS σ (Int32.ofNat r) (Int32.ofNat w) = ((σ.wi 0 27 (σ.i 0 27 + 1)).wi 0 23 (Int32.ofNat w)).wi 0 24 (Int32.ofNat r) := by
        unfold brS
        rw [if_pos (Or.inl (by rw [h3.1]; decide))]
      rw [this]
      refine ⟨?_, ?_⟩
      · simp only [wi_i, wi_r, wi_l, wi_sh, wr_i, wr_l, wr_sh, wr_r, wi_wi, Nat.reduceEqDiff, eq_self, reduceCtorEq, and_true, and_false, true_and, false_and, and_self, reduceIte, if_true, if_false]
      · simp only [wi_i, wi_r, wi_l, wi_sh, wr_i, wr_l, wr_sh, wr_r, wi_wi, Nat.reduceEqDiff, eq_self, reduceCtorEq, and_true, and_false, true_and, false_and, and_self, reduceIte, if_true, if_false]
    | some x =>
      rw [hl] at h3
      have hx := h1 x (lsE_mem es x hl)
      have c0 : ¬ Int32.ofNat x.1 < 0 := fun q => by
        have := (oN_lt (b := 0) (by omega) (by omega)).mp q
        omega
      by_cases q : w < x.1 ∨ (w = x.1 ∧ r < x.2)
      · have : brS σ (Int32.ofNat r) (Int32.ofNat w) = ((σ.wi 0 27 (σ.i 0 27 + 1)).wi 0 23 (Int32.ofNat w)).wi 0 24 (Int32.ofNat r) := by
          unfold brS
          rw [if_pos]
          rw [h3.1, h3.2]
          rcases q with q | q
          · exact Or.inr (Or.inl ((oN_lt (by omega) (by omega)).mpr q))
          · exact Or.inr (Or.inr ⟨by rw [q.1], (oN_lt (by omega) (by omega)).mpr q.2⟩)
        rw [this]
        have e : lsA (some x) (w, r) = some (w, r) := if_pos q
        rw [e]
        refine ⟨?_, ?_⟩
        · simp only [wi_i, wi_r, wi_l, wi_sh, wr_i, wr_l, wr_sh, wr_r, wi_wi, Nat.reduceEqDiff, eq_self, reduceCtorEq, and_true, and_false, true_and, false_and, and_self, reduceIte, if_true, if_false]
        · simp only [wi_i, wi_r, wi_l, wi_sh, wr_i, wr_l, wr_sh, wr_r, wi_wi, Nat.reduceEqDiff, eq_self, reduceCtorEq, and_true, and_false, true_and, false_and, and_self, reduceIte, if_true, if_false]
      · have : brS σ (Int32.ofNat r) (Int32.ofNat w) = σ.wi 0 27 (σ.i 0 27 + 1) := by
          unfold brS
          rw [if_neg]
          rw [h3.1, h3.2]
          rintro (z | z | z)
          · exact c0 z
          · exact q (Or.inl ((oN_lt (by omega) (by omega)).mp z))
          · exact q (Or.inr ⟨(oN_eq (by omega) (by omega)).mp z.1, (oN_lt (by omega) (by omega)).mp z.2⟩)
        rw [this]
        have e : lsA (some x) (w, r) = some x := if_neg q
        rw [e]
        refine ⟨?_, ?_⟩
        · simp only [wi_i, wi_r, wi_l, wi_sh, wr_i, wr_l, wr_sh, wr_r, wi_wi, Nat.reduceEqDiff, eq_self, reduceCtorEq, and_true, and_false, true_and, false_and, and_self, reduceIte, if_true, if_false]
          exact h3.1
        · simp only [wi_i, wi_r, wi_l, wi_sh, wr_i, wr_l, wr_sh, wr_r, wi_wi, Nat.reduceEqDiff, eq_self, reduceCtorEq, and_true, and_false, true_and, false_and, and_self, reduceIte, if_true, if_false]
          exact h3.2
theorem RlR.mono {B : Int32} {es : Evs} {σ τ : Sg} (h : RlR B es σ) (h1 : τ.i 0 23 = σ.i 0 23) (h2 : τ.i 0 24 = σ.i 0 24) (h3 : τ.i 0 27 = σ.i 0 27) : RlR B es τ := by
  unfold RlR at h ⊢
  rw [h1, h2, h3]
  exact h
/-- the names told -/
def EnR (env : Env) (σ : Sg) : Prop := ∃ ks cs ls : List (List Int32),
  (σ.i 0 4 = Int32.ofNat ks.length ∧ ks.length ≤ 24 ∧ (∀ (k : Nat) nm, ks[k]? = some nm → NmIs σ ((2193 + 9 * k) + 1) nm) ∧ (∀ nm, env.1 nm = ks.findIdx? (· == nm)) ∧ ∀ k, k < ks.length → (σ.i (2193 + 9 * k) 1 = 0 ↔ env.2.2.2.1 k = false)) ∧
  (σ.i 0 5 = Int32.ofNat cs.length ∧ cs.length ≤ 24 ∧ (∀ (k : Nat) nm, cs[k]? = some nm → NmIs σ ((2409 + 3 * k) + 1) nm) ∧ (∀ nm, env.2.1 nm = cs.findIdx? (· == nm)) ∧ ∀ k, k < cs.length → 1 ≤ env.2.2.2.2.1 k ∧ env.2.2.2.2.1 k ≤ 3 ∧ σ.i (2409 + 3 * k) 1 = Int32.ofNat (env.2.2.2.2.1 k)) ∧
  (σ.i 0 7 = Int32.ofNat ls.length ∧ ls.length ≤ 8 ∧ (∀ (k : Nat) nm, ls[k]? = some nm → NmIs σ (2481 + 2 * k) nm) ∧ ∀ nm, env.2.2.1 nm = ls.findIdx? (· == nm)) ∧
  (env.2.2.2.2.2 ≠ 999 → σ.i 0 33 = Int32.ofInt env.2.2.2.2.2 ∧ -2 ≤ env.2.2.2.2.2 ∧ env.2.2.2.2.2 < cs.length)
theorem NmIs.mono {σ τ : Sg} {a : Nat} {nm : List Int32} (h : NmIs σ a nm) (h1 : τ.i a = σ.i a) (h2 : τ.i (a + 1) = σ.i (a + 1)) : NmIs τ a nm := by
  unfold NmIs at h ⊢
  rw [h1, h2]
  exact h
theorem EnR.mono {env : Env} {σ τ : Sg} (h : EnR env σ) (hi : ∀ a, 2193 ≤ a → a < 2500 → τ.i a = σ.i a) (h0 : ∀ k, k = 4 ∨ k = 5 ∨ k = 7 ∨ k = 33 → τ.i 0 k = σ.i 0 k) : EnR env τ := by
  obtain ⟨ks, cs, ls, ⟨k1, k2, k3, k4, k5⟩, ⟨c1, c2, c3, c4, c5⟩, ⟨l1, l2, l3, l4⟩, w1⟩ := h
  refine ⟨ks, cs, ls, ⟨(h0 4 (by decide)).trans k1, k2, fun k nm q => ?_, k4, fun k hk => ?_⟩, ⟨(h0 5 (by decide)).trans c1, c2, fun k nm q => ?_, c4, fun k hk => ?_⟩, ⟨(h0 7 (by decide)).trans l1, l2, fun k nm q => ?_, l4⟩, fun q => ⟨(h0 33 (by decide)).trans (w1 q).1, (w1 q).2⟩⟩
  · have := (List.getElem?_eq_some_iff.mp q).1
    exact (k3 k nm q).mono (hi _ (by omega) (by omega)) (hi _ (by omega) (by omega))
  · rw [hi _ (by omega) (by omega)]
    exact k5 k hk
  · have := (List.getElem?_eq_some_iff.mp q).1
    exact (c3 k nm q).mono (hi _ (by omega) (by omega)) (hi _ (by omega) (by omega))
  · rw [hi _ (by omega) (by omega)]
    exact c5 k hk
  · have := (List.getElem?_eq_some_iff.mp q).1
    exact (l3 k nm q).mono (hi _ (by omega) (by omega)) (hi _ (by omega) (by omega))
/-- the variables, by their places and lengths -/
def VrR (vs : List (Nat × Nat)) (σ : Sg) : Prop := σ.i 0 32 = Int32.ofNat vs.length ∧ ∀ (k : Nat) q, vs[k]? = some q → σ.i 54 k = Int32.ofNat (32 * q.1 + q.2) ∧ q.1 + q.2 ≤ 8192 ∧ q.2 ≤ 16
def vsN (t : Nat → Int32) (vs : List (Nat × Nat)) : List (List Int32) := vs.map fun q => txN t q.1 q.2
theorem VrR.mono {vs : List (Nat × Nat)} {σ τ : Sg} (h : VrR vs σ) (h0 : τ.i 0 32 = σ.i 0 32) (h1 : ∀ k, k < vs.length → τ.i 54 k = σ.i 54 k) : VrR vs τ := by
  refine ⟨h0.trans h.1, fun k q hq => ?_⟩
  rw [h1 k (List.getElem?_eq_some_iff.mp hq).1]
  exact h.2 k q hq
/-- the reader stands at p; c nodes, o open; the m first Nodes of lst are in use -/
def RS (t : Nat → Int32) (n N : Nat) (env : Env) (B : Int32 × Int32 × Rf) (σ : Sg) (p c o : Nat) (vs : List (Nat × Nat)) (es : Evs) (m : Nat) (lst : List Nat) (cap u : Nat) : Prop :=
  FX ΦR σ.sh σ.r ∧ TX t n σ ∧ Cur t n p σ ∧ EnR env σ ∧ VrR vs σ ∧ (vs.length ≤ o + 3 ∧ o ≤ 12) ∧ σ.i 0 20 = Int32.ofNat o ∧ σ.i 0 21 = Int32.ofNat c ∧ (RlR B.1 es σ ∧ σ.i 0 22 = B.2.1) ∧ (N = 5 ∨ N = 7) ∧ σ.r 0 34 = B.2.2 ∧ LsS σ (N + 1) lst cap ∧ σ.i N 1 = Int32.ofNat m ∧ (m ≤ lst.length ∧ lst.length ≤ 23400 ∧ cap ≤ 2 * lst.length + 10 ∧ m + 2 * (n - p) ≤ u ∧ u ≤ 23000)
theorem no21 : sh0R.all (fun s => !(decide (s = Sh.obj 21))) = true := by decide +kernel
/-- a Node is none of the first cells -/
theorem nd_ge {sh : List Sh} {r : Nat → Nat → Rf} (F : FX ΦR sh r) {v : Nat} (h : sh[v]? = some (Sh.obj 21)) : 3365 ≤ v := by
  refine Nat.le_of_not_lt fun q => ?_
  have e : sh0R.length = 3365 := by decide +kernel
  have h2 := F.s (a := v) (s := sh0R[v]'(by omega)) (List.getElem?_eq_getElem (l := sh0R) (by omega))
  rw [h] at h2
  have h3 := List.all_eq_true.mp no21 _ (List.getElem_mem (l := sh0R) (n := v) (by omega))
  rw [← Option.some.inj h2] at h3
  cases h3
/-- an Object[] is none of the first cells -/
theorem oa_ge {sh : List Sh} {r : Nat → Nat → Rf} (F : FX ΦR sh r) {v k : Nat} (h : sh[v]? = some (Sh.arr 14 k)) : 3365 ≤ v := by
  refine Nat.le_of_not_lt fun q => ?_
  have e : sh0R.length = 3365 := by decide +kernel
  have h2 := F.s (a := v) (s := sh0R[v]'(by omega)) (List.getElem?_eq_getElem (l := sh0R) (by omega))
  rw [h] at h2
  have h3 := List.all_eq_true.mp no14 _ (List.getElem_mem (l := sh0R) (n := v) (by omega))
  rw [← Option.some.inj h2] at h3
  cases h3
theorem LsS.arr {σ : Sg} {A cap : Nat} {lst : List Nat} (h : LsS σ A lst cap) {b : Nat} (hb : σ.r A 1 = Rf.ptr b) : σ.sh[b]? = some (Sh.arr 14 cap) := by
  rcases h.2.2.2.2.2 with ⟨_, r⟩ | ⟨b', _, r, s, _, _⟩
  · have := hb.symm.trans r
    cases this
  · have := hb.symm.trans r
    cases this
    exact s

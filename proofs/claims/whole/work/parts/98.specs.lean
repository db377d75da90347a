/-! THE REFERENCE'S READER: specs() -/
/-- kind, whether there is an ==, its number -/
abbrev Spc : Type := Int × Bool × Int
def dupK (vs : List (List Int32)) (nm : List Int32) (p k : Nat) : Evs := ((List.range k).filter fun j => decide (vs[j]? = some nm)).map fun _ => (p, 2)
theorem dupK_succ (vs : List (List Int32)) (nm : List Int32) (p k : Nat) : dupK vs nm p (k + 1) = dupK vs nm p k ++ if vs[k]? = some nm then [(p, 2)] else [] := by
  unfold dupK
  rw [List.range_succ, List.filter_append, List.map_append]
  by_cases h : vs[k]? = some nm
  · rw [if_pos h, List.filter_cons, if_pos (by simpa using h), List.filter_nil]
    rfl
  · rw [if_neg h, List.filter_cons, if_neg (by simpa using h), List.filter_nil]
    rfl
section PSP
variable (t : Nat → Int32) (n : Nat) (env : Env) (places : Nat)
/-- [: KIND], from p on: where it ends, what was broken, the kind -/
def pSk (p : Nat) : Nat ⊕ (Nat × Evs × Int) :=
  if tyS t n p = 8 then
    (if tyS t n (nxS t n p) = 2 then .inr (nxS t n (nxS t n p), (if env.1 (nmS t n (nxS t n p)) = none then [(nxS t n p, 3)] else []), idx (env.1 (nmS t n (nxS t n p)))) else .inl (nxS t n p))
  else .inr (p, [], 0)
/-- [== NUMBER] -/
def pSq (p : Nat) : Nat ⊕ (Nat × Bool × Int) :=
  if tyS t n p = 16 then
    (match pSg t n (nxS t n p) with
    | .inl q => .inl q
    | .inr (v, p') => .inr (p', true, v))
  else .inr (p, false, 0)
def pSp : Nat → Nat → Nat → List (List Int32) → Evs → List Spc → Nat ⊕ (Nat × List (List Int32) × Evs × List Spc)
  | 0, p, _, _, _, _ => .inl p
  | f + 1, p, k, vs, es, acc => if tyS t n p = 2 then
      (match pSk t n env (nxS t n p) with
      | .inl q => .inl q
      | .inr (p1, es1, kd) => match pSq t n p1 with
        | .inl q => .inl q
        | .inr (p2, hs, v) =>
          if tyS t n p2 = 6 then pSp f (nxS t n p2) (k + 1) (if vs.length < 3 then vs ++ [nmS t n p] else vs) (es ++ (if 0 < places ∧ k = places then [(p, 4)] else []) ++ dupK vs (nmS t n p) p vs.length ++ es1) (if k < 3 then acc ++ [(kd, hs, v)] else acc)
          else if tyS t n p2 = 5 then .inr (nxS t n p2, (if vs.length < 3 then vs ++ [nmS t n p] else vs), es ++ (if 0 < places ∧ k = places then [(p, 4)] else []) ++ dupK vs (nmS t n p) p vs.length ++ es1 ++ (if 0 < places ∧ k + 1 < places then [(p2, 4)] else []), (if k < 3 then acc ++ [(kd, hs, v)] else acc))
          else .inl p2)
    else .inl p
end PSP
/-- what reading a method leaves as it was: M the Method -/
def MF (N M : Nat) (σ τ : Sg) (lst : List Nat) (cap : Nat) (lst' : List Nat) (cap' : Nat) (W : Nat → Prop) : Prop :=
  (∃ more, lst' = lst ++ more ∧ (∀ v ∈ more, σ.sh.length ≤ v) ∧ RmL σ.sh τ.sh more.length cap cap') ∧
  (∀ a, a < σ.sh.length → a ≠ 0 → a ≠ 54 → a ≠ N → a ≠ N + 1 → ¬ (M ≤ a ∧ a < M + 4) → (∀ i : Nat, lst[i]? = some a → ¬ W i) → τ.i a = σ.i a ∧ τ.l a = σ.l a ∧ (σ.r (N + 1) 1 ≠ Rf.ptr a → τ.r a = σ.r a)) ∧
  (∀ k, ¬ rdK k → k ≠ 33 → k ≠ 6 → τ.i 0 k = σ.i 0 k) ∧ τ.l 0 = σ.l 0 ∧ (∀ k, k ≠ 25 → k ≠ 34 → τ.r 0 k = σ.r 0 k) ∧
  (τ.r (N + 1) 1 = σ.r (N + 1) 1 ∨ ∃ a, σ.sh.length ≤ a ∧ τ.r (N + 1) 1 = Rf.ptr a)
section MF
variable {N M nv : Nat} {σ τ υ : Sg} {lst lst' lst2 : List Nat} {cap cap' cap2 : Nat} {W W' : Nat → Prop}
theorem RF.mf (h : RF N nv σ τ lst cap lst' cap' W) : MF N M σ τ lst cap lst' cap' W := ⟨h.1, fun a h1 h2 h3 h4 h5 _ h6 => h.2.1 a h1 h2 h3 h4 h5 h6, fun k hk _ _ => h.2.2.1 k hk, h.2.2.2.1, fun k hk _ => h.2.2.2.2.1 k hk, h.2.2.2.2.2.2⟩
theorem MF.refl (N M : Nat) (σ : Sg) (lst : List Nat) (cap : Nat) (W : Nat → Prop) : MF N M σ σ lst cap lst cap W := (RF.refl N 0 σ lst cap W).mf
theorem MF.tr (h : MF N M σ τ lst cap lst' cap' W) (g : MF N M τ υ lst' cap' lst2 cap2 W') (hW : ∀ i, W' i → W i) : MF N M σ υ lst cap lst2 cap2 W := by
  obtain ⟨⟨x1, h1, h2, h3⟩, h4, h5, h6, h7, h9⟩ := h
  obtain ⟨⟨x2, g1, g2, g3⟩, g4, g5, g6, g7, g9⟩ := g
  have hl := h3.len
  refine ⟨⟨x1 ++ x2, by rw [g1, h1, List.append_assoc], fun v hv => ?_, by rw [List.length_append]; exact h3.trans g3⟩, fun a a1 a2 a3 a4 a5 a7 a6 => ?_, fun k hk k1 k2 => (g5 k hk k1 k2).trans (h5 k hk k1 k2), g6.trans h6, fun k hk k1 => (g7 k hk k1).trans (h7 k hk k1), ?_⟩
  · rcases List.mem_append.mp hv with q | q
    · exact h2 v q
    · exact Nat.le_trans hl (g2 v q)
  · have hn : ∀ i : Nat, lst'[i]? = some a → ¬ W' i := by
      intro i q z
      rw [h1] at q
      by_cases hi : i < lst.length
      · rw [List.getElem?_append_left hi] at q
        exact a6 i q (hW i z)
      · rw [List.getElem?_append_right (by omega)] at q
        have := h2 a (List.mem_of_getElem? q)
        omega
    obtain ⟨b1, b2, b3⟩ := h4 a a1 a2 a3 a4 a5 a7 a6
    obtain ⟨c1, c2, c3⟩ := g4 a (by omega) a2 a3 a4 a5 a7 hn
    refine ⟨c1.trans b1, c2.trans b2, fun q => (c3 fun z => ?_).trans (b3 q)⟩
    rcases h9 with w | ⟨w, w1, w2⟩
    · exact q (w.symm.trans z)
    · rw [z] at w2
      cases w2
      omega
  · rcases g9 with w | ⟨w, w1, w2⟩
    · rcases h9 with y | ⟨y, y1, y2⟩
      · exact Or.inl (w.trans y)
      · exact Or.inr ⟨y, y1, w.trans y2⟩
    · exact Or.inr ⟨w, by omega, w2⟩
theorem MF.pre (h : MF N M σ τ lst cap lst' cap' W) : ∀ (i v : Nat), lst[i]? = some v → lst'[i]? = some v := by
  obtain ⟨⟨x, h1, -, -⟩, -⟩ := h
  intro i v q
  rw [h1, List.getElem?_append_left (List.getElem?_eq_some_iff.mp q).1]
  exact q
end MF
section SPECS
variable {Z : zT} {d : Nat} {t : Nat → Int32} {n N : Nat} {env : Env} {B : Int32 × Int32 × Rf} {σ τ : Sg} {p c o : Nat} {vs : List (Nat × Nat)} {es E : Evs} {m : Nat} {lst : List Nat} {cap u : Nat} {K : kS} {M places : Nat}
/-- what the reader's state rests on -/
theorem RS.upw (S : RS t n N env B σ p c o vs es m lst cap u) (hF : FX ΦR τ.sh τ.r) (hs : τ.sh = σ.sh) (hi : ∀ a, a = 37 ∨ a = N ∨ a = N + 1 ∨ (2193 ≤ a ∧ a < 2500) → τ.i a = σ.i a) (h0 : ∀ k, ¬ rdK k → τ.i 0 k = σ.i 0 k) {B' : Int32 × Int32 × Rf} (h34 : τ.r 0 34 = B'.2.2) (hL : τ.r (N + 1) 1 = σ.r (N + 1) 1) (hA : ∀ b, σ.r (N + 1) 1 = Rf.ptr b → τ.r b = σ.r b) {p' c' o' u' : Nat} {vs' : List (Nat × Nat)} {es' : Evs} (hC : Cur t n p' τ) (hV : VrR vs' τ) (hv : vs'.length ≤ o' + 3 ∧ o' ≤ 12) (h20 : τ.i 0 20 = Int32.ofNat o') (h21 : τ.i 0 21 = Int32.ofNat c') (hR : RlR B'.1 es' τ) (h22 : τ.i 0 22 = B'.2.1) (hu : m + 2 * (n - p') ≤ u' ∧ u' ≤ 23000) : RS t n N env B' τ p' c' o' vs' es' m lst cap u' := by
  obtain ⟨x1, x2, x3, x4⟩ := S.tx
  obtain ⟨b1, b2, b3, -⟩ := S.bd
  refine ⟨hF, ⟨x1, (h0 15 (by decide)).trans x2, fun k hk => ?_, x4⟩, hC, S.en.mono (fun a h1 h2 => hi a (by omega)) (fun k hk => h0 k (by rcases hk with rfl | rfl | rfl | rfl <;> decide)), hV, hv, h20, h21, ⟨hR, h22⟩, S.nn, h34, S.ls.mono (fun a s q => by rw [hs]; exact q) (by rw [hi _ (by omega)]) hL hA, ?_, b1, b2, b3, hu⟩
  · rw [hi 37 (by omega)]
    exact x3 k hk
  · rw [hi N (by omega)]
    exact S.nm
/-- the Method that is read -/
def MtP (M : Nat) : Prop := M = 50 ∨ ∃ j, 1 ≤ j ∧ j ≤ 120 ∧ M = 2497 + 4 * j
theorem MtP.sh (h : MtP M) : sh0R[M]? = some (Sh.obj 19) := by
  rcases h with rfl | ⟨j, h1, h2, rfl⟩
  · decide +kernel
  · exact mt_p (by omega)
theorem MtP.rg (h : MtP M) : (M = 50 ∨ 2501 ≤ M) ∧ M + 4 ≤ 2981 := by
  rcases h with rfl | ⟨j, h1, h2, rfl⟩ <;> omega
/-- a number of the Method written -/
theorem RS.mwi (S : RS t n N env B σ p c o vs es m lst cap u) (hM : MtP M) {a k : Nat} {x : Int32} (ha : M ≤ a ∧ a < M + 4) : RS t n N env B (σ.wi a k x) p c o vs es m lst cap u ∧ MF N M σ (σ.wi a k x) lst cap lst cap (fun _ => False) := by
  have hr := hM.rg
  have hN := S.nn
  obtain ⟨b1, b2, b3, b4, b5⟩ := S.bd
  have e0 : ∀ j, (σ.wi a k x).i 0 j = σ.i 0 j := fun j => wi_ne (by omega)
  refine ⟨S.upw (τ := σ.wi a k x) S.fx rfl (fun b hb => wi_row (by omega)) (fun j _ => e0 j) S.md rfl (fun _ _ => rfl) ?_ (S.vr.mono (e0 32) (fun j _ => wi_ne (by omega))) S.vo ((e0 20).trans S.op) ((e0 21).trans S.ct) (S.rl.mono (e0 23) (e0 24) (e0 27)) ((e0 22).trans S.cc) ⟨b4, b5⟩, ?_⟩
  · obtain ⟨h1, h2, h3, h4, h5, h6⟩ := S.cur
    exact ⟨h1, (e0 18).trans h2, (e0 16).trans h3, (e0 17).trans h4, fun a b => (e0 19).trans (h5 a b), fun a b => ⟨(e0 26).trans (h6 a b).1, (h6 a b).2⟩⟩
  · exact ⟨⟨[], (List.append_nil _).symm, fun v hv => (by cases hv), RmL.refl _ _⟩, fun b _ _ _ _ _ h1 _ => ⟨wi_row (by omega), rfl, fun _ => rfl⟩, fun j _ _ _ => e0 j, rfl, fun _ _ _ => rfl, Or.inl rfl⟩
/-- the specs read so far -/
def SpD (σ : Sg) (M : Nat) (acc : List Spc) : Prop := ∀ (i : Nat) s, acc[i]? = some s → σ.i (M + 1) i = Int32.ofInt s.1 ∧ σ.i (M + 3) i = (if s.2.1 = true then 1 else 0) ∧ σ.i (M + 2) i = Int32.ofInt s.2.2
theorem rf_M {nv : Nat} {W : Nat → Prop} {lst' : List Nat} {cap' : Nat} (S : RS t n N env B σ p c o vs es m lst cap u) (G : RF N nv σ τ lst cap lst' cap' W) (hM : MtP M) {a : Nat} (ha : M ≤ a ∧ a < M + 4) : τ.i a = σ.i a := by
  have hr := hM.rg
  exact rf_lo S G (by omega) (by omega) (by omega)
theorem SpD.fr {nv : Nat} {W : Nat → Prop} {lst' : List Nat} {cap' : Nat} {acc : List Spc} (h : SpD σ M acc) (S : RS t n N env B σ p c o vs es m lst cap u) (G : RF N nv σ τ lst cap lst' cap' W) (hM : MtP M) : SpD τ M acc := by
  intro i s hs
  rw [rf_M S G hM (a := M + 1) (by omega), rf_M S G hM (a := M + 2) (by omega), rf_M S G hM (a := M + 3) (by omega)]
  exact h i s hs
end SPECS

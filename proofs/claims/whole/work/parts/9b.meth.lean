/-! THE REFERENCE'S READER: method(), its parts -/
/-- call, role, layer, specs, test (nil: none), body, measure -/
abbrev Mtd : Type := Int × Nat × Int × List Spc × Ast × Ast × Nat
section PMT
variable (t : Nat → Int32) (n : Nat) (env : Env)
def pIn (p : Nat) : Nat ⊕ (Nat × Evs × Int) :=
  if tyS t n p = 28 then
    (if tyS t n (nxS t n p) = 2 then .inr (nxS t n (nxS t n p), (if env.2.2.1 (nmS t n (nxS t n p)) = none then [(nxS t n p, 3)] else []), idx (env.2.2.1 (nmS t n (nxS t n p)))) else .inl (nxS t n p))
  else .inr (p, [], -1)
def pIf (V : List (List Int32)) (p : Nat) : PR := if tyS t n p = 29 then pTt t n (pTs t n env 12) V (nxS t n p) 0 else .inr (p, 0, [], .nil)
def rlO (y : Nat) : Nat := if y = 25 then 1 else if y = 26 then 2 else if y = 27 then 3 else 0
def plO : Option Nat → Nat
  | some k => env.2.2.2.2.1 k
  | none => 0
def wiE (w : Int) : Env := (env.1, env.2.1, env.2.2.1, env.2.2.2.1, env.2.2.2.2.1, w)
def wiO : Option Nat → Int
  | some k => k
  | none => -2
def hsN (pl : Nat) (acc : List Spc) : Nat := ((List.range pl).filter fun i => (acc.getD i (0, false, 0)).2.1).length
def pMt (mn p : Nat) : Nat ⊕ (Nat × Evs × Mtd) :=
  if tyS t n p = 2 then
    (if tyS t n (nxS t n p) = 4 then
      (match pSp t n env (plO env (env.2.1 (nmS t n p))) (n + 1 - nxS t n (nxS t n p)) (nxS t n (nxS t n p)) 0 [] ((if env.2.1 (nmS t n p) = none then [(p, 3)] else []) ++ (if mn = 120 then [(p, 7)] else [])) [] with
      | .inl q => .inl q
      | .inr (p3, V, es3, acc) => match pIn t n env (if rlO (tyS t n p3) = 0 then p3 else nxS t n p3) with
        | .inl q => .inl q
        | .inr (p5, es5, ly) => match pIf t n env V p5 with
          | .inl q => .inl q
          | .inr (p6, k6, es6, x) =>
            if tyS t n p6 = 14 then
              (match pX t n (wiE env (wiO (env.2.1 (nmS t n p)))) 12 false V (nxS t n p6) 0 with
              | .inl q => .inl q
              | .inr (p8, _, es8, y) => if tyS t n p8 = 7 then .inr (nxS t n p8, es3 ++ es5 ++ es6 ++ es8, idx (env.2.1 (nmS t n p)), rlO (tyS t n p3), ly, acc, x, y, k6 + hsN (plO env (env.2.1 (nmS t n p))) acc) else .inl p8)
            else .inl p6)
    else .inl (nxS t n p))
  else .inl p
end PMT
section METH
variable {Z : zT} {d : Nat} {t : Nat → Int32} {n N : Nat} {env : Env} {B : Int32 × Int32 × Rf} {σ τ : Sg} {p c o : Nat} {vs : List (Nat × Nat)} {es E : Evs} {m : Nat} {lst : List Nat} {cap u : Nat} {K : kS} {M : Nat}
/-- the reader's state, made anew -/
theorem RS.gen (S : RS t n N env B σ p c o vs es m lst cap u) (hF : FX ΦR τ.sh τ.r) (hs : τ.sh = σ.sh) (hi : ∀ a, a = 37 ∨ a = N ∨ a = N + 1 → τ.i a = σ.i a) (h15 : τ.i 0 15 = σ.i 0 15) {env' : Env} (hE : EnR env' τ) {B' : Int32 × Int32 × Rf} (h34 : τ.r 0 34 = B'.2.2) (hL : τ.r (N + 1) 1 = σ.r (N + 1) 1) (hA : ∀ b, σ.r (N + 1) 1 = Rf.ptr b → τ.r b = σ.r b) {p' c' o' u' : Nat} {vs' : List (Nat × Nat)} {es' : Evs} (hC : Cur t n p' τ) (hV : VrR vs' τ) (hv : vs'.length ≤ o' + 3 ∧ o' ≤ 12) (h20 : τ.i 0 20 = Int32.ofNat o') (h21 : τ.i 0 21 = Int32.ofNat c') (hR : RlR B'.1 es' τ) (h22 : τ.i 0 22 = B'.2.1) (hu : m + 2 * (n - p') ≤ u' ∧ u' ≤ 23000) : RS t n N env' B' τ p' c' o' vs' es' m lst cap u' := by
  obtain ⟨x1, x2, x3, x4⟩ := S.tx
  obtain ⟨b1, b2, b3, -⟩ := S.bd
  refine ⟨hF, ⟨x1, h15.trans x2, fun k hk => ?_, x4⟩, hC, hE, hV, hv, h20, h21, ⟨hR, h22⟩, S.nn, h34, S.ls.mono (fun a s q => by rw [hs]; exact q) (by rw [hi _ (by omega)]) hL hA, ?_, b1, b2, b3, hu⟩
  · rw [hi 37 (by omega)]
    exact x3 k hk
  · rw [hi N (by omega)]
    exact S.nm
/-- a reference of the Method written -/
theorem RS.mwr (S : RS t n N env B σ p c o vs es m lst cap u) (hM : MtP M) {k : Nat} {x : Rf} (hk : k = 8 ∨ k = 9) : RS t n N env B (σ.wr M k x) p c o vs es m lst cap u ∧ MF N M σ (σ.wr M k x) lst cap lst cap (fun _ => False) := by
  have hr := hM.rg
  have hN := S.nn
  obtain ⟨b1, b2, b3, b4, b5⟩ := S.bd
  have hcs : ΦR.cst M k = false := by
    show cstR M k = false
    unfold cstR
    rw [hM.sh]
    rcases hk with rfl | rfl <;> rfl
  refine ⟨S.upw (τ := σ.wr M k x) (B' := B) (FX.w (a := M) (k := k) (v := x) S.fx hcs) rfl (fun b hb => rfl) (fun j _ => rfl) ((wr_ne (by omega)).trans S.md) (wr_ne (by omega)) (fun b hb => wr_row (fun z => ?_)) ?_ (S.vr.mono rfl (fun j _ => rfl)) S.vo S.op S.ct (S.rl.mono rfl rfl rfl) S.cc ⟨b4, b5⟩, ?_⟩
  · have := oa_ge S.fx (S.ls.arr hb)
    omega
  · obtain ⟨h1, h2, h3, h4, h5, h6⟩ := S.cur
    exact ⟨h1, h2, h3, h4, h5, fun a b => ⟨(h6 a b).1, fun z => (wr_ne (by omega)).trans ((h6 a b).2 z)⟩⟩
  · exact ⟨⟨[], (List.append_nil _).symm, fun v hv => (by cases hv), RmL.refl _ _⟩, fun b _ _ _ _ _ h1 _ => ⟨rfl, rfl, fun _ => wr_row (by omega)⟩, fun j _ _ _ => rfl, rfl, fun j _ _ => wr_ne (by omega), Or.inl (wr_ne (by omega))⟩
/-- the Method's cells are none of what reading changes -/
theorem rf_Mr {nv : Nat} {W : Nat → Prop} {lst' : List Nat} {cap' : Nat} (S : RS t n N env B σ p c o vs es m lst cap u) (G : RF N nv σ τ lst cap lst' cap' W) {a : Nat} (h1 : 9 ≤ a) (h2 : a < 3365) (h3 : a ≠ 54) : τ.r a = σ.r a := by
  have hs := sh_ge S.fx
  have hN := S.nn
  refine (G.2.1 a (by omega) (by omega) h3 (by omega) (by omega) (fun i hi => ?_)).2.2 (fun z => ?_)
  · have := nd_ge S.fx (S.ls.2.2.2.1 a (List.mem_of_getElem? hi))
    omega
  · have := oa_ge S.fx (S.ls.arr z)
    omega
/-- a number of the reader, and what else a method's reader sets -/
theorem mf_0 {k : Nat} {v : Int32} (hk : rdK k ∨ k = 33 ∨ k = 6) : MF N M σ (σ.wi 0 k v) lst cap lst cap (fun _ => False) := by
  refine ⟨⟨[], (List.append_nil _).symm, fun v hv => (by cases hv), RmL.refl _ _⟩, fun a _ h1 _ _ _ _ _ => ⟨wi_row h1, rfl, fun _ => rfl⟩, fun j h1 h2 h3 => wi_ne (fun q => ?_), rfl, fun _ _ _ => rfl, Or.inl rfl⟩
  rw [q.2] at h1 h2 h3
  rcases hk with z | z | z
  · exact h1 z
  · exact h2 z
  · exact h3 z
theorem EnR.wi (h : EnR env σ) {w : Int} (h33 : τ.i 0 33 = Int32.ofInt w) (hw : ∃ k, k = w ∧ (-2 ≤ w ∧ (w < 0 ∨ ∃ nm k, env.2.1 nm = some k ∧ w = k))) (hi : ∀ a, 2193 ≤ a → a < 2500 → τ.i a = σ.i a) (h0 : ∀ k, k = 4 ∨ k = 5 ∨ k = 7 → τ.i 0 k = σ.i 0 k) : EnR (wiE env w) τ := by
  obtain ⟨-, -, hw1, hw2⟩ := hw
  obtain ⟨ks, cs, ls, ⟨k1, k2, k3, k4, k5⟩, ⟨c1, c2, c3, c4, c5⟩, ⟨l1, l2, l3, l4⟩, -⟩ := h
  refine ⟨ks, cs, ls, ⟨(h0 4 (by decide)).trans k1, k2, fun k nm q => ?_, k4, fun k hk => ?_⟩, ⟨(h0 5 (by decide)).trans c1, c2, fun k nm q => ?_, c4, fun k hk => ?_⟩, ⟨(h0 7 (by decide)).trans l1, l2, fun k nm q => ?_, l4⟩, fun _ => ⟨h33, hw1, ?_⟩⟩
  · have := (List.getElem?_eq_some_iff.mp q).1
    exact (k3 k nm q).mono (hi _ (by omega) (by omega)) (hi _ (by omega) (by omega))
  · rw [hi _ (by omega) (by omega)]
    exact k5 k hk
  · have := (List.getElem?_eq_some_iff.mp q).1
    exact (c3 k nm q).mono (hi _ (by omega) (by omega)) (hi _ (by omega) (by omega))
  · rw [hi _ (by omega) (by omega)]
    exact c5 k hk
  · have := (List.getElem?_eq_some_iff.mp q).1
    exact (l3 k nm q).mono (hi _ (by omega) (by omega)) (hi _ (by omega) (by omega))
  · show w < cs.length
    rcases hw2 with z | ⟨nm, k, z1, z2⟩
    · omega
    · rw [c4] at z1
      have := fi_lt z1
      omega
/-- how many == there are, counted -/
theorem rs_measure {c0 pl j0 : Nat} {l1 l2 : Int32} {acc : List Spc} (hM : MtP M) (hpl : pl ≤ 3) (hc : c0 < 24) (S : RS t n N env B σ p c o vs es m lst cap u) (hp : σ.i (2409 + 3 * c0) 1 = Int32.ofNat pl) (hD : SpD σ M acc) (e4 : σ.i M 4 = Int32.ofNat j0)
    (h : ∀ τ, RS t n N env B τ p c o vs es m lst cap u → MF N M σ τ lst cap lst cap (fun _ => False) → (∀ a, a ≠ M → τ.i a = σ.i a) → (∀ k, k ≠ 4 → τ.i M k = σ.i M k) → τ.r = σ.r → (pl ≤ acc.length → τ.i M 4 = Int32.ofNat (j0 + hsN pl acc)) → B_X23_method_329 Z (d + 1) τ l1 l2 (Int32.ofNat c0) M K) : B_X23_method_279 Z (d + 1) σ l1 l2 (Int32.ofNat c0) M 0 K := by
  have hr := hM.rg
  have lp : ∀ x i (τ : Sg), pl - i = x → i ≤ pl → RS t n N env B τ p c o vs es m lst cap u → MF N M σ τ lst cap lst cap (fun _ => False) → (∀ a, a ≠ M → τ.i a = σ.i a) → (∀ k, k ≠ 4 → τ.i M k = σ.i M k) → τ.r = σ.r → (i ≤ acc.length → τ.i M 4 = Int32.ofNat (j0 + hsN i acc)) → B_X23_method_279 Z (d + 1) τ l1 l2 (Int32.ofNat c0) M (Int32.ofNat i) K := by
    intro x
    induction x with
    | zero =>
      intro i τ hx hi S2 G2 ea ek er e42
      have e : i = pl := by omega
      subst e
      refine S_X23_method_279 S2.fx hM.sh ⟨fun z => ?_, fun _ => ⟨ib_oN hc (by decide), ?_⟩⟩
      · have := (oN_lt (b := 0) (by omega) (by omega)).mp z
        omega
      · rw [oN_t (by omega), ea _ (by omega), hp]
        exact ⟨fun _ => h τ S2 G2 ea ek er e42, fun z => absurd (Int32.le_refl _) z⟩
    | succ x ih =>
      intro i τ hx hi S2 G2 ea ek er e42
      have hsu : ∀ s, acc[i]? = some s → hsN (i + 1) acc = hsN i acc + if s.2.1 = true then 1 else 0 := by
        intro s hs
        have hgd : acc.getD i (0, false, 0) = s := by
          rw [List.getD_eq_getElem?_getD, hs]
          rfl
        unfold hsN
        rw [List.range_succ, List.filter_append, List.length_append, List.filter_cons, hgd, List.filter_nil]
        congr 1
        split <;> rfl
      refine S_X23_method_279 S2.fx hM.sh ⟨fun z => ?_, fun _ => ⟨ib_oN hc (by decide), ?_⟩⟩
      · have := (oN_lt (b := 0) (by omega) (by omega)).mp z
        omega
      · rw [oN_t (by omega), ea _ (by omega), hp, oN_t (by omega), ea (M + 3) (by omega), oN_1 i]
        refine ⟨fun z => ?_, fun _ => ⟨ib_oN (by omega) (by decide), fun z => ?_, fun z => ?_⟩⟩
        · have := (oN_le (by omega) (by omega)).mp z
          omega
        · obtain ⟨S3, G3⟩ := S2.mwi hM (a := M) (k := 4) (x := τ.i M 4 + 0) (by omega)
          refine ih (i + 1) _ (by omega) (by omega) S3 (G2.tr G3 (fun _ z => z)) (fun a ha => (wi_row ha).trans (ea a ha)) (fun k hk => (wi_ne (by omega)).trans (ek k hk)) er (fun hl => ?_)
          obtain ⟨s, hs⟩ : ∃ s, acc[i]? = some s := ⟨_, List.getElem?_eq_getElem (by omega)⟩
          obtain ⟨-, y2, -⟩ := hD i s hs
          rw [y2] at z
          have hf : ¬ s.2.1 = true := fun y => by
            rw [if_pos y] at z
            exact absurd z (by decide)
          rw [wi_at, hsu s hs, if_neg hf, Int32.add_zero]
          exact e42 (by omega)
        · obtain ⟨S3, G3⟩ := S2.mwi hM (a := M) (k := 4) (x := τ.i M 4 + 1) (by omega)
          refine ih (i + 1) _ (by omega) (by omega) S3 (G2.tr G3 (fun _ z => z)) (fun a ha => (wi_row ha).trans (ea a ha)) (fun k hk => (wi_ne (by omega)).trans (ek k hk)) er (fun hl => ?_)
          obtain ⟨s, hs⟩ : ∃ s, acc[i]? = some s := ⟨_, List.getElem?_eq_getElem (by omega)⟩
          obtain ⟨-, y2, -⟩ := hD i s hs
          rw [y2] at z
          have hf : s.2.1 = true := by
            refine Classical.byContradiction fun y => ?_
            rw [if_neg y] at z
            exact z rfl
          rw [wi_at, hsu s hs, if_pos hf, e42 (by omega), oN_1]
          rfl
  exact lp pl 0 σ (by omega) (Nat.zero_le _) S (MF.refl _ _ _ _ _ _) (fun _ _ => rfl) (fun _ _ => rfl) rfl (fun _ => e4)
end METH

/-! THE REFERENCE'S READER: named() -/
section NAMED
variable {Z : zT} {d : Nat} {t : Nat → Int32} {n N : Nat} {env : Env} {B : Int32 × Int32} {σ τ : Sg} {p c o : Nat} {vs : List (Nat × Nat)} {es E : Evs} {m : Nat} {lst : List Nat} {cap u : Nat} {K : kS} {f : Pf} {most : Nat}
/-- ( E {, E} ) into a Node that was just made -/
theorem rs_argN (hZ : ZK Z) (hd : 19 ≤ d) (He : Fol t n N env B f o (B_X23_e_0 Z d)) (hmo : most ≤ 3) {opn : Nat} {val : Int} (hop : opn = 13 ∨ opn = 14 ∨ opn = 15) {i v : Nat} (S : RS t n N env (B.1, B.2, Rf.ptr N) σ p c o vs (E ++ es) m lst cap u) (hu : u + 2 ≤ 23000) (hty : tyS t n p = 4) (him : i + 1 = m) (hv : lst[i]? = some v) (e0 : σ.i v 0 = Int32.ofNat opn) (e1 : opn = 13 ∨ opn = 14 → σ.i v 1 = Int32.ofInt val) (e4 : σ.i v 4 = 0) (e5 : σ.r v 5 = Rf.nul) (e6 : σ.r v 6 = Rf.nul) (e7 : σ.r v 7 = Rf.nul)
    (h1 : ∀ p' c' es' x, pAN t n f most (vsN t vs) p c es opn val = .inr (p', c', es', x) → ∀ τ m' lst' cap', RS t n N env (B.1, B.2, Rf.ptr N) τ p' c' o vs (E ++ es') m' lst' cap' u → RF N vs.length σ τ lst cap lst' cap' (fun j => i ≤ j) → m ≤ m' → p ≤ p' → TrN τ (Rg lst' i m') x (Rf.ptr v) → K (.inl none) τ)
    (h0 : ∀ q, pAN t n f most (vsN t vs) p c es opn val = .inl q → ∀ τ a, WR n N vs.length σ lst i cap τ a q → K (.inr ("DispatchHouseModel$Wrong", a)) τ) : B_X23_arguments_0 Z (d + 1) σ (Rf.ptr v) (Int32.ofNat most) K := by
  have hpn := S.pn
  refine rs_args (i := i) hZ hd He hmo (n + 1 - p) σ p c es m lst cap u [] K (by omega) (by show 0 + (n + 1 - p) ≤ 8300; omega) S hu (Or.inl hty) (by omega) hv e4 ⟨e5, e6, e7⟩ (fun p' c' es' l' hpa τ m' lst' cap' S' G' hm' hp' hv' hs' h4' hA' hi' => ?_) (fun q hpa τ a w => ?_)
  · refine h1 p' c' es' _ (by unfold pAN; rw [hpa]) τ m' lst' cap' S' (G'.wk (fun j hj => by omega) (Nat.le_refl _)) hm' hp' ?_
    rw [TrN_aN]
    refine ⟨v, rfl, ⟨i, Nat.le_refl _, by omega, hv'⟩, hs', ⟨fun _ => ?_, fun z => by omega, fun z => ?_, fun z => by omega, fun _ => h4', fun z => by omega⟩, hA'.1.wk (by omega) (Nat.le_refl _), ?_, hA'.2.2.wk (by omega) (Nat.le_refl _)⟩
    · rw [hi' 0 (by decide)]
      exact e0
    · rw [hi' 1 (by decide)]
      exact e1 (by omega)
    · rw [if_neg (by omega)]
      exact hA'.2.1.wk (by omega) (Nat.le_refl _)
  · exact h0 q (by unfold pAN; rw [hpa]) τ a w
/-- which Node, which number, how many arguments -/
def Sel (σ : Sg) (a b : Int32) (opn : Nat) (val : Int) (most : Nat) : Prop := (opn = 13 ∧ most = 1 ∧ ¬ a < 0 ∧ a = Int32.ofInt val) ∨ (opn = 14 ∧ a < 0 ∧ b = Int32.ofInt val ∧ ((b < 0 ∧ most = 0) ∨ (¬ b < 0 ∧ ib b 24 ∧ σ.i (2409 + 3 * b.toNatClampNeg) 1 = Int32.ofNat most)))
theorem Sel.fr {a b : Int32} {opn : Nat} {val : Int} (h : Sel σ a b opn val most) (g : ∀ x, 2409 ≤ x → x < 2500 → τ.i x = σ.i x) : Sel τ a b opn val most := by
  rcases h with h | ⟨h1, h2, h3, h4⟩
  · exact Or.inl h
  · refine Or.inr ⟨h1, h2, h3, ?_⟩
    rcases h4 with h4 | ⟨h4, h5, h6⟩
    · exact Or.inl h4
    · exact Or.inr ⟨h4, h5, by rw [g _ (by omega) (by have := h5.2; omega)]; exact h6⟩
theorem rf_lo {B : Int32 × Int32 × Rf} {nv : Nat} {W : Nat → Prop} {lst' : List Nat} {cap' : Nat} (S : RS t n N env B σ p c o vs es m lst cap u) (G : RF N nv σ τ lst cap lst' cap' W) {a : Nat} (h1 : 9 ≤ a) (h2 : a < 3365) (h3 : a ≠ 54) : τ.i a = σ.i a := by
  have hs := sh_ge S.fx
  have hN := S.nn
  refine (G.2.1 a (by omega) (by omega) h3 (by omega) (by omega) (fun i hi => ?_)).1
  have := nd_ge S.fx (S.ls.2.2.2.1 a (List.mem_of_getElem? hi))
  omega
theorem rs_n138 (hZ : ZK Z) (hd : 20 ≤ d) (He : Fol t n N env B f o (B_X23_e_0 Z (d - 1))) (hmo : most ≤ 3) {a b : Int32} {opn : Nat} {val : Int} (hsel : Sel σ a b opn val most) (S : RS t n N env (B.1, B.2, Rf.ptr N) σ p c o vs (E ++ es) m lst cap u) (hu : u + 3 ≤ 23000) (hty : tyS t n p = 4)
    (h1 : ∀ p' c' es' x, pAN t n f most (vsN t vs) p c es opn val = .inr (p', c', es', x) → ∀ τ m' lst' cap' r, RS t n N env (B.1, B.2, Rf.ptr N) τ p' c' o vs (E ++ es') m' lst' cap' (u + 1) → RF N vs.length σ τ lst cap lst' cap' (fun j => m ≤ j) → m ≤ m' → p ≤ p' → TrN τ (Rg lst' m m') x r → r ≠ Rf.nul → K (.inl (some (rv r))) τ)
    (h0 : ∀ q, pAN t n f most (vsN t vs) p c es opn val = .inl q → ∀ τ e, WR n N vs.length σ lst m cap τ e q → K (.inr ("DispatchHouseModel$Wrong", e)) τ) : B_X23_named_138 Z (d + 1) σ a b K := by
  have go : B_X23_named_154 Z (d + 1) σ a b N (Int32.ofNat opn) K := by
    refine S_X23_named_154 S.fx ⟨S.n22, ?_⟩
    refine rs_get (by omega) S (by omega) (fun τ lst' cap' v S2 G2 hv hN => Or.inl ⟨Rf.ptr v, rfl, ?_⟩)
    have hs := S2.ls.2.2.2.1 v (List.mem_of_getElem? hv)
    have sel2 := hsel.fr (τ := τ) (fun x x1 x2 => rf_lo S G2 (by omega) (by omega) (by omega))
    have go2 : ∀ s1 : Int32, s1 = Int32.ofInt val → B_X23_named_171 Z (d + 1) τ (Rf.ptr v) a b (Rf.ptr v) s1 K := by
      intro s1 hs1
      obtain ⟨S3, G3⟩ := S2.nwi (k := 1) (x := s1) hv
      have H3 : RF N vs.length σ (τ.wi v 1 s1) lst cap lst' cap' (fun j => m ≤ j) := (G2.wk (W := fun j => m ≤ j) (fun j hj => by omega) (Nat.le_refl _)).tr G3 (fun j hj => by omega) (Nat.le_refl _)
      obtain ⟨q0, q1, q2, q3, q4, q5, q6, q7, q8, q9, q10, q11⟩ := hN
      have call : ∀ K', (∀ τ2, K (.inl (some (.ref v))) τ2 → K' (.inl none) τ2) → (∀ τ2 e, K (.inr e) τ2 → K' (.inr e) τ2) → B_X23_arguments_0 Z d (τ.wi v 1 s1) (Rf.ptr v) (Int32.ofNat most) K' := by
        intro K' hk1 hk2
        obtain ⟨d, rfl⟩ : ∃ e, d = e + 1 := ⟨d - 1, by omega⟩
        have hop : opn = 13 ∨ opn = 14 ∨ opn = 15 := by rcases hsel with z | z <;> omega
        refine rs_argN (i := m) hZ (by omega) He hmo hop S3 (by omega) hty rfl hv ((wi_ne (by omega)).trans q0) (fun _ => (wi_at _ _ _ _).trans hs1) ((wi_ne (by omega)).trans q4) q5 q6 q7 (fun p' c' es' x hpa τ2 m' lst2 cap2 S4 G4 hm4 hp4 T4 => hk1 _ ?_) (fun q hpa τ2 e w => hk2 _ _ ?_)
        · exact h1 p' c' es' x hpa τ2 m' lst2 cap2 (Rf.ptr v) S4 (H3.tr G4 (fun j hj => hj) (Nat.le_refl _)) (by omega) hp4 T4 (by intro z; cases z)
        · exact h0 q hpa τ2 e (w.tr (m0 := m) H3 (fun j hj => hj) (Nat.le_refl _) (Nat.le_refl _))
      refine S_X23_named_171 S2.fx ⟨v, rfl, hs, ?_⟩
      have e9 : ib b 24 → (τ.wi v 1 s1).i (2409 + 3 * b.toNatClampNeg) 1 = τ.i (2409 + 3 * b.toNatClampNeg) 1 := fun hb => by
        have := nd_ge S2.fx hs
        have := hb.2
        exact wi_ne (by omega)
      rcases sel2 with ⟨z1, z2, z3, z4⟩ | ⟨z1, z2, z3, z4⟩
      · subst z2
        exact ⟨fun y => absurd y z3, fun _ => call _ (fun _ y => y) (fun _ _ y => y)⟩
      · refine ⟨fun _ => ⟨fun y => ?_, fun y => ?_⟩, fun y => absurd z2 y⟩
        · rcases z4 with ⟨z4, z5⟩ | ⟨z4, z5, z6⟩
          · subst z5
            exact call _ (fun _ y => y) (fun _ _ y => y)
          · exact absurd y z4
        · rcases z4 with ⟨z4, z5⟩ | ⟨z4, z5, z6⟩
          · exact absurd z4 y
          · rw [e9 z5, z6]
            exact ⟨z5, call _ (fun _ y => y) (fun _ _ y => y)⟩
    rcases hsel with ⟨z1, z2, z3, z4⟩ | ⟨z1, z2, z3, z4⟩
    · exact ⟨fun y => absurd y z3, fun _ => go2 a z4⟩
    · exact ⟨fun _ => go2 b z3, fun y => absurd z2 y⟩
  refine S_X23_named_138 S.fx ⟨N, S.md, ?_⟩
  rcases hsel with ⟨z1, z2, z3, z4⟩ | ⟨z1, z2, z3, z4⟩
  · subst z1
    exact ⟨fun y => absurd y z3, fun _ => go⟩
  · subst z1
    exact ⟨fun _ => go, fun y => absurd z2 y⟩
def lstK (vs : List (List Int32)) (nm : List Int32) (k : Nat) : Option Nat := ((List.range k).filter fun j => decide (vs[j]? = some nm)).getLast?
theorem lstK_succ (vs : List (List Int32)) (nm : List Int32) (k : Nat) : lstK vs nm (k + 1) = if vs[k]? = some nm then some k else lstK vs nm k := by
  unfold lstK
  rw [List.range_succ, List.filter_append]
  by_cases h : vs[k]? = some nm
  · rw [if_pos h, List.filter_cons, if_pos (by simpa using h), List.filter_nil, List.getLast?_append]
    rfl
  · rw [if_neg h, List.filter_cons, if_neg (by simpa using h), List.filter_nil, List.append_nil]
theorem lstK_lt {vs : List (List Int32)} {nm : List Int32} {k j : Nat} (h : lstK vs nm k = some j) : j < k := by
  unfold lstK at h
  have := List.mem_of_getLast? h
  exact List.mem_range.mp (List.mem_filter.mp this).1
/-- a variable -/
theorem rs_n32 {w q l i v : Nat} (hd : 1 ≤ d) (hw : w ≤ 8192) (hq : q + l ≤ 8192) (hl : l ≤ 16) (h1 : ∀ (τ : Sg) (es' : Evs), (es' = if lstI (vsN t vs) (txN t q l) = none then [(w, 3)] else []) → RS t n N env (B.1, B.2, Rf.ptr N) τ p c o vs (es ++ es') m lst cap u → RF N vs.length σ τ lst cap lst cap (fun j => j = i) → τ.i v 2 = Int32.ofInt (idx (lstI (vsN t vs) (txN t q l))) → (∀ x, x ≠ 2 → τ.i v x = σ.i v x) → τ.r v = σ.r v → K (.inl (some (.ref v))) τ) : ∀ j k (τ : Sg), vs.length - k = j → k ≤ vs.length → RS t n N env (B.1, B.2, Rf.ptr N) τ p c o vs es m lst cap u → lst[i]? = some v → RF N vs.length σ τ lst cap lst cap (fun j => j = i) → τ.i v 2 = Int32.ofInt (idx (lstK (vsN t vs) (txN t q l) k)) → (∀ x, x ≠ 2 → τ.i v x = σ.i v x) → τ.r v = σ.r v → B_X23_named_32 Z (d + 1) τ (Int32.ofNat w) (Int32.ofNat (32 * q + l)) v (Int32.ofNat k) K := by
  have hlen : (vsN t vs).length = vs.length := by
    unfold vsN
    rw [List.length_map]
  have hlI : lstI (vsN t vs) (txN t q l) = lstK (vsN t vs) (txN t q l) vs.length := by
    unfold lstI lstK
    rw [hlen]
  intro j
  induction j with
  | zero =>
    intro k τ hj hk S hv G e2 ei er
    have e : k = vs.length := by omega
    subst e
    have hvo := S.vo
    have hs := S.ls.2.2.2.1 v (List.mem_of_getElem? hv)
    rw [← hlI] at e2
    refine S_X23_named_32 S.fx ⟨fun _ => ⟨hs, ?_⟩, fun z => absurd (by rw [S.vr.1]; exact Int32.le_refl _) z⟩
    cases hc : lstI (vsN t vs) (txN t q l) with
    | some x =>
      have hx : x < vs.length := by
        rw [hlI] at hc
        exact lstK_lt hc
      rw [hc] at e2 h1
      have e2' : τ.i v 2 = Int32.ofNat x := e2
      rw [e2']
      refine ⟨fun _ => h1 τ [] (by rw [if_neg (by intro z; cases z)]) (by rw [List.append_nil]; exact S) G e2 ei er, fun z => absurd ((oN_le (a := 0) (by omega) (by omega)).mpr (Nat.zero_le _)) z⟩
    | none =>
      rw [hc] at e2 h1
      have e2' : τ.i v 2 = -1 := e2
      rw [e2']
      refine ⟨fun z => absurd z (by decide), fun _ => ?_⟩
      refine rs_breaks (r := 3) hd hw (by decide) S (fun τ5 S5 G5 => ?_)
      obtain ⟨y1, y2, y3, y4⟩ := nd_keep S G5 hv (fun z => z)
      exact h1 τ5 [(w, 3)] (by rw [if_pos rfl]) S5 (G.tr G5 (fun _ z => z.elim) (Nat.le_refl _)) (by rw [y2]; exact e2) (fun x hx => by rw [y2]; exact ei x hx) (y4.trans er)
  | succ j ih =>
    intro k τ hj hk S hv G e2 ei er
    have hvo := S.vo
    have hs := S.ls.2.2.2.1 v (List.mem_of_getElem? hv)
    have hge := nd_ge S.fx hs
    obtain ⟨x, hx⟩ : ∃ x, vs[k]? = some x := ⟨_, List.getElem?_eq_getElem (by omega)⟩
    obtain ⟨x1, x2, x3⟩ := S.vr.2 k x hx
    have hnm : (vsN t vs)[k]? = some (txN t x.1 x.2) := by
      unfold vsN
      rw [List.getElem?_map, hx]
      rfl
    refine S_X23_named_32 S.fx ⟨fun z => ?_, fun _ => ⟨ib_oN (by omega) (by decide), ?_⟩⟩
    · rw [S.vr.1] at z
      have := (oN_le (by omega) (by omega)).mp z
      omega
    · rw [oN_t (by omega), x1]
      obtain ⟨d, rfl⟩ : ∃ e, d = e + 1 := ⟨d - 1, by omega⟩
      refine rf_isSame S.fx S.tx.2.2.1 x2 x3 hq hl (fun he => ⟨fun z => absurd z (by decide), fun _ => ⟨hs, ?_⟩⟩) (fun he => ⟨fun _ => ?_, fun z => absurd rfl z⟩)
      · obtain ⟨S3, G3⟩ := S.nwi (k := 2) (x := Int32.ofNat k) hv
        rw [oN_1]
        refine ih (k + 1) _ (by omega) (by omega) S3 hv (G.tr G3 (fun _ z => z) (Nat.le_refl _)) ?_ (fun y hy => (wi_ne (by omega)).trans (ei y hy)) er
        rw [wi_at, lstK_succ, if_pos (by rw [hnm, he])]
        rfl
      · rw [oN_1]
        refine ih (k + 1) τ (by omega) (by omega) S hv G ?_ ei er
        rw [lstK_succ, if_neg (by rw [hnm]; exact fun z => he (Option.some.inj z))]
        exact e2
theorem fi_lt {ns : List (List Int32)} {nm : List Int32} {k : Nat} (h : ns.findIdx? (· == nm) = some k) : k < ns.length := by
  rw [List.findIdx?_eq_some_iff_getElem] at h
  exact h.1
/-- named(): behind a name's node is counted -/
theorem rs_named (hZ : ZK Z) (hd : 21 ≤ d) (He : Fol t n N env B f o (B_X23_e_0 Z (d - 1))) {es0 : Evs} (S : RS t n N env (B.1, B.2, Rf.ptr N) σ p c o vs (E ++ es0) m lst cap u) (hu : u + 2 ≤ 23000) (hty : tyS t n p = 2) (r0 : PR) (hr0 : r0 = if tyS t n (nxS t n p) = 4 then
      pAN t n f (match env.1 (nmS t n p) with
        | some _ => 1
        | none => match env.2.1 (nmS t n p) with
          | some k => env.2.2.2.2.1 k
          | none => 0) (vsN t vs) (nxS t n p) c (es0 ++ (match env.1 (nmS t n p) with
        | some k => if env.2.2.2.1 k = true then [(p, 6)] else []
        | none => match env.2.1 (nmS t n p) with
          | some _ => []
          | none => [(p, 3)])) (match env.1 (nmS t n p) with
        | some _ => 13
        | none => 14) (match env.1 (nmS t n p) with
        | some k => k
        | none => idx (env.2.1 (nmS t n p)))
    else .inr (nxS t n p, c, es0 ++ (if lstI (vsN t vs) (nmS t n p) = none then [(p, 3)] else []), aN 12 (idx (lstI (vsN t vs) (nmS t n p))) 0 .nil .nil .nil))
    (h1 : ∀ p' c' es' x, r0 = .inr (p', c', es', x) → ∀ τ m' lst' cap' r, RS t n N env (B.1, B.2, Rf.ptr N) τ p' c' o vs (E ++ es') m' lst' cap' u → RF N vs.length σ τ lst cap lst' cap' (fun j => m ≤ j) → m ≤ m' → p ≤ p' → TrN τ (Rg lst' m m') x r → r ≠ Rf.nul → K (.inl (some (rv r))) τ)
    (h0 : ∀ q, r0 = .inl q → ∀ τ e, WR n N vs.length σ lst m cap τ e q → K (.inr ("DispatchHouseModel$Wrong", e)) τ) : B_X23_named_0 Z (d + 1) σ (Int32.ofNat p) K := by
  subst hr0
  have hp : p < n := ty_pos (t := t) (by omega)
  have hg := nxS_gt (t := t) hp
  have hpn := S.pn
  obtain ⟨b1, b2, b3, b4, b5⟩ := S.bd
  refine S_X23_named_0 S.fx (rs_name hZ (by omega) S (fun _ hq hl τ1 S1 G1 => ?_) (fun z => absurd hty z))
  refine rs_is (y := 4) (by decide) (by omega) S1 (fun h4 => ⟨fun _ => ?_, fun z => absurd z (by decide)⟩) (fun h4 => ⟨fun z => absurd rfl z, fun _ => ⟨N, S1.md, S1.n22, ?_⟩⟩)
  · rw [if_pos h4] at h1 h0
    refine rs_kind (by omega) S1 hq hl ?_
    refine rs_call (by omega) S1 hq hl ?_
    -- behind what is broken
    have go : ∀ (τ : Sg) (es1 : Evs) (a b : Int32) (opn : Nat) (val : Int) (most : Nat), most ≤ 3 → RS t n N env (B.1, B.2, Rf.ptr N) τ (nxS t n p) c o vs (E ++ es1) m lst cap (u - 2) → RF N vs.length σ τ lst cap lst cap (fun _ => False) → Sel τ a b opn val most → pAN t n f (match env.1 (nmS t n p) with
        | some _ => 1
        | none => match env.2.1 (nmS t n p) with
          | some k => env.2.2.2.2.1 k
          | none => 0) (vsN t vs) (nxS t n p) c (es0 ++ (match env.1 (nmS t n p) with
        | some k => if env.2.2.2.1 k = true then [(p, 6)] else []
        | none => match env.2.1 (nmS t n p) with
          | some _ => []
          | none => [(p, 3)])) (match env.1 (nmS t n p) with
        | some _ => 13
        | none => 14) (match env.1 (nmS t n p) with
        | some k => k
        | none => idx (env.2.1 (nmS t n p))) = pAN t n f most (vsN t vs) (nxS t n p) c es1 opn val → B_X23_named_138 Z (d + 1) τ a b K := by
      intro τ es1 a b opn val most hmo S2 G2 hsel he
      rw [he] at h1 h0
      refine rs_n138 hZ (by omega) He hmo hsel S2 (by omega) h4 (fun p' c' es' x hpa τ3 m' lst' cap' r S3 G3 hm3 hp3 T3 hr => ?_) (fun q hpa τ3 e w => ?_)
      · exact h1 p' c' es' x hpa τ3 m' lst' cap' r (S3.wk (by omega) (by omega)) ((G2.wk (W := fun j => m ≤ j) (fun _ z => z.elim) (Nat.le_refl _)).tr G3 (fun _ z => z) (Nat.le_refl _)) hm3 (by omega) T3 hr
      · exact h0 q hpa τ3 e (w.tr (m0 := m) G2 (fun _ z => z.elim) (Nat.le_refl _) (Nat.le_refl _))
    have enk : ∀ k, env.1 (nmS t n p) = some k → k < 24 ∧ (τ1.i (2193 + 9 * k) 1 = 0 ↔ env.2.2.2.1 k = false) := by
      intro k hk
      obtain ⟨ks, cs, ls, ⟨k1, k2, k3, k4, k5⟩, -⟩ := S1.en
      rw [k4] at hk
      have := fi_lt hk
      exact ⟨by omega, k5 k this⟩
    have enc : ∀ k, env.2.1 (nmS t n p) = some k → k < 24 ∧ env.2.2.2.2.1 k ≤ 3 ∧ τ1.i (2409 + 3 * k) 1 = Int32.ofNat (env.2.2.2.2.1 k) := by
      intro k hk
      obtain ⟨ks, cs, ls, -, ⟨k1, k2, k3, k4, k5⟩, -⟩ := S1.en
      rw [k4] at hk
      have := fi_lt hk
      exact ⟨by omega, (k5 k this).2⟩
    have enm : txN t p (lnS t n p) = nmS t n p := rfl
    rw [enm]
    have nlt : ∀ k, k < 24 → ¬ Int32.ofNat k < 0 := fun k hk z => by
      have := (oN_lt (b := 0) (by omega) (by omega)).mp z
      omega
    cases hk : env.1 (nmS t n p) with
    | some k =>
      rw [hk] at go
      obtain ⟨k24, kb⟩ := enk k hk
      refine ⟨fun _ => ?_, fun z => absurd ((oN_le (a := 0) (by omega) (by omega)).mpr (Nat.zero_le k)) z⟩
      refine S_X23_named_113 S1.fx ⟨fun z => absurd z (nlt k k24), fun _ => ⟨ib_oN k24 (by decide), ?_⟩⟩
      rw [show (Int32.ofInt (idx (some k))).toNatClampNeg = k from oN_t (by omega)]
      refine ⟨fun z => ?_, fun z => ?_⟩
      · have hb := kb.mp z
        refine go τ1 es0 _ _ 13 k 1 (by decide) S1 G1 (Or.inl ⟨rfl, rfl, nlt k k24, rfl⟩) ?_
        dsimp only
        rw [hb, if_neg (by decide), List.append_nil]
      · have hb : env.2.2.2.1 k = true := by
          cases hc : env.2.2.2.1 k with
          | true => rfl
          | false => exact absurd (kb.mpr hc) z
        refine rs_breaks (r := 6) (by omega) (by omega) (by decide) S1 (fun τ5 S5 G5 => ?_)
        rw [List.append_assoc] at S5
        refine go τ5 _ _ _ 13 k 1 (by decide) S5 (G1.tr G5 (fun _ z => z) (Nat.le_refl _)) (Or.inl ⟨rfl, rfl, nlt k k24, rfl⟩) ?_
        dsimp only
        rw [hb, if_pos rfl]
    | none =>
      rw [hk] at go
      refine ⟨fun z => absurd z (by decide), fun _ => ?_⟩
      cases hc : env.2.1 (nmS t n p) with
      | some k =>
        rw [hc] at go
        obtain ⟨k24, k3, kp⟩ := enc k hc
        refine ⟨fun _ => ?_, fun z => absurd ((oN_le (a := 0) (by omega) (by omega)).mpr (Nat.zero_le k)) z⟩
        refine S_X23_named_113 S1.fx ⟨fun _ => ?_, fun z => absurd (by decide) z⟩
        refine go τ1 es0 _ _ 14 k (env.2.2.2.2.1 k) k3 S1 G1 (Or.inr ⟨rfl, by decide, rfl, Or.inr ⟨nlt k k24, ib_oN k24 (by decide), ?_⟩⟩) ?_
        · rw [show (Int32.ofInt (idx (some k))).toNatClampNeg = k from oN_t (by omega)]
          exact kp
        · dsimp only
          rw [List.append_nil]
          rfl
      | none =>
        rw [hc] at go
        refine ⟨fun z => absurd z (by decide), fun _ => ?_⟩
        refine rs_breaks (r := 3) (by omega) (by omega) (by decide) S1 (fun τ5 S5 G5 => ?_)
        rw [List.append_assoc] at S5
        refine S_X23_named_113 S5.fx ⟨fun _ => ?_, fun z => absurd (by decide) z⟩
        exact go τ5 _ _ _ 14 (-1) 0 (by decide) S5 (G1.tr G5 (fun _ z => z) (Nat.le_refl _)) (Or.inr ⟨rfl, by decide, rfl, Or.inl ⟨by decide, rfl⟩⟩) rfl
  · rw [if_neg h4] at h1 h0
    refine rs_get (by omega) S1 (by omega) (fun τ lst' cap' v S2 G2 hv hN => Or.inl ⟨Rf.ptr v, rfl, v, rfl, S2.ls.2.2.2.1 v (List.mem_of_getElem? hv), ?_⟩)
    obtain ⟨S3, G3⟩ := S2.nwi (k := 2) (x := -1) hv
    obtain ⟨q0, q1, q2, q3, q4, q5, q6, q7, q8, q9, q10, q11⟩ := hN
    have H3 : RF N vs.length σ (τ.wi v 2 (-1)) lst cap lst' cap' (fun j => m ≤ j) := ((G1.wk (W := fun j => m ≤ j) (fun _ z => z.elim) (Nat.le_refl _)).tr G2 (fun j hj => by omega) (Nat.le_refl _)).tr G3 (fun j hj => by omega) (Nat.le_refl _)
    refine rs_n32 (σ := τ.wi v 2 (-1)) (i := m) (by omega) (by omega) hq hl (fun τ4 es4 he S4 G4 e2 ei er => ?_) vs.length 0 (τ.wi v 2 (-1)) (by omega) (Nat.zero_le _) S3 hv (RF.refl _ _ _ _ _ _) (wi_at _ _ _ _) (fun _ _ => rfl) rfl
    rw [List.append_assoc] at S4
    have hv4 := S4.ls.2.2.2.1 v (List.mem_of_getElem? hv)
    refine h1 _ _ _ _ (by rw [he]; rfl) τ4 (m + 1) lst' cap' (Rf.ptr v) (S4.wk (by omega) (by omega)) (H3.tr G4 (fun j hj => by omega) (Nat.le_refl _)) (by omega) (by omega) ?_ (by intro z; cases z)
    rw [TrN_aN]
    refine ⟨v, rfl, ⟨m, Nat.le_refl _, by omega, hv⟩, hv4, ⟨fun _ => ?_, fun _ => e2, fun z => by omega, fun z => by omega, fun z => by omega, fun z => by omega⟩, ?_, ?_, ?_⟩
    · rw [ei 0 (by decide)]
      exact (wi_ne (by omega)).trans q0
    · rw [er]
      exact q5
    · rw [er, if_neg (by omega)]
      exact q6
    · rw [er]
      exact q7
end NAMED

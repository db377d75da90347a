/-! THE REFERENCE'S METHODS; method() in a text -/
theorem sp_cnt {t : Nat → Int32} {n : Nat} {env : Env} {pl : Nat} (hpl : pl ≤ 3) : ∀ f p k vs es acc p' V es' acc', pSp t n env pl f p k vs es acc = .inr (p', V, es', acc') → acc.length = min k 3 → es' = [] → pl ≤ acc'.length
  | 0, p, k, vs, es, acc, p', V, es', acc', h, _, _ => by cases h
  | f + 1, p, k, vs, es, acc, p', V, es', acc', h, ha, he => by
    rw [pSp] at h
    have hac : ∀ (s : Spc), (if k < 3 then acc ++ [s] else acc).length = min (k + 1) 3 := fun s => by
      split
      · rw [List.length_append]
        show acc.length + 1 = _
        omega
      · omega
    split at h
    · split at h
      · cases h
      · split at h
        · cases h
        · split at h
          · exact sp_cnt hpl f _ _ _ _ _ _ _ _ _ h (hac _) he
          · split at h
            · cases h
              rw [hac]
              have h4 := (List.append_eq_nil_iff.mp he).2
              have : ¬ (0 < pl ∧ k + 1 < pl) := fun z => by
                rw [if_pos z] at h4
                cases h4
              omega
            · cases h
    · cases h
/-- a method that broke nothing: its call is told, and it has all places -/
theorem mt_ok {t : Nat → Int32} {n : Nat} {env : Env} {mn p p' : Nat} {D : Mtd} (h : pMt t n env mn p = .inr (p', [], D)) (h3 : plO env (env.2.1 (nmS t n p)) ≤ 3) : (∃ k, env.2.1 (nmS t n p) = some k ∧ D.1 = k) ∧ mn ≠ 120 ∧ plO env (env.2.1 (nmS t n p)) ≤ D.2.2.2.1.length := by
  unfold pMt at h
  split at h
  · split at h
    · split at h
      · cases h
      · rename_i p3 V es3 acc hs
        obtain ⟨x, hx⟩ := sp_ext _ _ _ _ _ _ _ _ _ _ hs
        split at h
        · cases h
        · split at h
          · cases h
          · split at h
            · split at h
              · cases h
              · split at h
                · have e0 := (Prod.mk.inj (Sum.inr.inj h)).2
                  have e1 := (Prod.mk.inj e0).1
                  have e2 := (Prod.mk.inj e0).2
                  have h3' : es3 = [] := (List.append_eq_nil_iff.mp (List.append_eq_nil_iff.mp (List.append_eq_nil_iff.mp e1).1).1).1
                  rw [hx] at h3'
                  have a1 := List.append_eq_nil_iff.mp (List.append_eq_nil_iff.mp h3').1
                  have c1 : env.2.1 (nmS t n p) ≠ none := fun z => by
                    have := a1.1
                    rw [if_pos z] at this
                    cases this
                  have c2 : mn ≠ 120 := fun z => by
                    have := a1.2
                    rw [if_pos z] at this
                    cases this
                  obtain ⟨k, hk⟩ := Option.ne_none_iff_exists'.mp c1
                  rw [← e2]
                  refine ⟨⟨k, hk, ?_⟩, c2, ?_⟩
                  · show idx (env.2.1 (nmS t n p)) = k
                    rw [hk]
                    rfl
                  · exact sp_cnt h3 _ _ _ _ _ _ _ _ _ _ hs rfl (by rw [hx]; exact h3')
                · cases h
            · cases h
    · cases h
  · cases h
/-- what the own call is doesn't matter to a method's reader -/
theorem ts_wi {t : Nat → Int32} {n : Nat} {env : Env} {w : Int} : ∀ r, pTs t n (wiE env w) r = pTs t n env r
  | 0 => rfl
  | r + 1 => by
    funext vs p k
    rw [pTs, pTs, ts_wi r]
    rfl
theorem sp_wi {t : Nat → Int32} {n : Nat} {env : Env} {w : Int} {pl : Nat} : ∀ f p k vs es acc, pSp t n (wiE env w) pl f p k vs es acc = pSp t n env pl f p k vs es acc
  | 0, p, k, vs, es, acc => rfl
  | f + 1, p, k, vs, es, acc => by
    rw [pSp, pSp]
    have e : pSk t n (wiE env w) = pSk t n env := rfl
    rw [e]
    split
    · split
      · rfl
      · split
        · rfl
        · split
          · exact sp_wi f _ _ _ _ _
          · rfl
    · rfl
theorem mt_wi {t : Nat → Int32} {n : Nat} {env : Env} {w : Int} {mn p : Nat} : pMt t n (wiE env w) mn p = pMt t n env mn p := by
  have e1 : (wiE env w).2.1 = env.2.1 := rfl
  have e2 : ∀ o, plO (wiE env w) o = plO env o := fun o => by cases o <;> rfl
  have e3 : pIn t n (wiE env w) = pIn t n env := rfl
  have e4 : pIf t n (wiE env w) = pIf t n env := by
    funext V p
    unfold pIf
    rw [ts_wi]
  have e5 : ∀ w', wiE (wiE env w) w' = wiE env w' := fun _ => rfl
  unfold pMt
  rw [e1, e2, e3, e4]
  simp only [sp_wi, e5]
/-- a method as it stands in the heap -/
def Mt1 (τ : Sg) (lst : List Nat) (b : Nat) (cs : List Cal) (j : Nat) (x : Mtd × Bool) : Prop :=
  (∃ (k : Nat) (cl : Cal), x.1.1 = k ∧ cs[k]? = some cl ∧ cl.2.1 ≤ x.1.2.2.2.1.length) ∧
  τ.i (2501 + 4 * j) 0 = Int32.ofInt x.1.1 ∧ τ.i (2501 + 4 * j) 1 = Int32.ofNat x.1.2.1 ∧ τ.i (2501 + 4 * j) 2 = Int32.ofInt x.1.2.2.1 ∧ τ.i (2501 + 4 * j) 3 = Int32.ofNat (j + 1) ∧ τ.i (2501 + 4 * j) 4 = Int32.ofNat x.1.2.2.2.2.2.2 ∧ τ.i (2501 + 4 * j) 10 = (if x.2 = true then 1 else 0) ∧
  SpD τ (2501 + 4 * j) x.1.2.2.2.1 ∧ TsN τ (Rg lst 0 b) x.1.2.2.2.2.1 (τ.r (2501 + 4 * j) 8) ∧ TrN τ (Rg lst 0 b) x.1.2.2.2.2.2.1 (τ.r (2501 + 4 * j) 9)
def MsL (ms : List (Mtd × Bool)) (cs : List Cal) (τ : Sg) (lst : List Nat) (b : Nat) : Prop := ∀ (j : Nat) x, ms[j]? = some x → Mt1 τ lst b cs j x
theorem ts_nil {τ : Sg} {A : Nat → Prop} : ∀ {x : Ast} {r : Rf}, TsN τ A x r → (r = Rf.nul ↔ x.isNil = true)
  | .nil, r, h => ⟨fun _ => rfl, fun _ => h⟩
  | .tag op y, r, h => by
    refine ⟨fun z => ?_, fun z => by cases z⟩
    unfold TsN at h
    split at h
    · rename_i e
      cases e
    · obtain ⟨x, hx, -⟩ := h
      rw [hx] at z
      cases z
    · exact h.elim
  | .line, r, h => h.elim
  | .align _, r, h => h.elim
  | .text _, r, h => h.elim
  | .nest _ _, r, h => h.elim
  | .append _ _, r, h => h.elim
  | .group _ _, r, h => h.elim
theorem sp_iff {τ : Sg} {A M i : Nat} {a b : List Spc} (hA : SpD τ A a) (hB : SpD τ M b) (h1 : i < a.length) (h2 : i < b.length) : spQ τ A M i ↔ spB (a.getD i (0, false, 0)) (b.getD i (0, false, 0)) = true := by
  obtain ⟨x, hx⟩ : ∃ x, a[i]? = some x := ⟨_, List.getElem?_eq_getElem h1⟩
  obtain ⟨y, hy⟩ : ∃ y, b[i]? = some y := ⟨_, List.getElem?_eq_getElem h2⟩
  rw [List.getD_eq_getElem?_getD, List.getD_eq_getElem?_getD, hx, hy]
  show _ ↔ spB x y = true
  obtain ⟨a1, a2, a3⟩ := hA i x hx
  obtain ⟨b1, b2, b3⟩ := hB i y hy
  unfold spQ spB
  rw [a1, a2, a3, b1, b2, b3, Bool.and_eq_true, Bool.and_eq_true, beq_iff_eq, beq_iff_eq, Bool.or_eq_true, beq_iff_eq, Bool.not_eq_true', and_assoc]
  cases x.2.1 <;> cases y.2.1 <;> simp
/-- whether there is such a method: in the heap and in the world -/
theorem th_iff {τ : Sg} {lst : List Nat} {b : Nat} {cs : List Cal} {ms : List (Mtd × Bool)} {D : Mtd} {num pl : Nat} {a' b' : Nat} {lst' : List Nat} (hm : MsL ms cs τ lst b) (hD : MtR τ (2501 + 4 * ms.length) lst' a' b' D num pl) (hk : ∃ (k : Nat) (cl : Cal), D.1 = k ∧ cs[k]? = some cl ∧ cl.2.1 = pl) (hpl : pl ≤ D.2.2.2.1.length) (hcs : cs.length ≤ 24) : thX τ (2501 + 4 * ms.length) ms.length pl ↔ twB ms D pl = true := by
  obtain ⟨d0, d1, d2, d3, d10, dS, -, dT, -⟩ := hD
  have nT := ts_nil dT
  unfold thX twB
  rw [Bool.and_eq_true, List.any_eq_true, nT]
  refine and_congr_right fun _ => ?_
  have key : ∀ (j : Nat) x, ms[j]? = some x → (thQ τ (2501 + 4 * ms.length) pl (j + 1) ↔ (!x.2 && Int32.ofInt x.1.1 == Int32.ofInt D.1 && x.1.2.2.2.2.1.isNil && Int32.ofNat x.1.2.1 == Int32.ofNat D.2.1 && Int32.ofInt x.1.2.2.1 == Int32.ofInt D.2.2.1 && (List.range pl).all fun i => spB (x.1.2.2.2.1.getD i (0, false, 0)) (D.2.2.2.1.getD i (0, false, 0))) = true) := by
    intro j x hx
    have hj := (List.getElem?_eq_some_iff.mp hx).1
    obtain ⟨⟨k, cl, x1, x2, x3⟩, e0, e1, e2, e3, e4, e10, eS, eT, -⟩ := hm j x hx
    have nX := ts_nil eT
    have eA : 2497 + 4 * (j + 1) = 2501 + 4 * j := by omega
    unfold thQ
    rw [eA, e10, e0, e1, e2, d0, d1, d2, nX]
    simp only [Bool.and_eq_true, beq_iff_eq, List.all_eq_true, List.mem_range, Bool.not_eq_true']
    constructor
    · rintro ⟨-, q2, q3, q4, q5, q6, q7⟩
      have hg : x.2 = false := by
        cases hx2 : x.2
        · rfl
        · rw [hx2] at q2
          exact absurd q2 (by decide)
      refine ⟨⟨⟨⟨⟨hg, q3⟩, q4⟩, q5⟩, q6⟩, fun i hi => (sp_iff eS dS ?_ (by omega)).mp (q7 i hi)⟩
      obtain ⟨k', cl', y1, y2, y3⟩ := hk
      have l1 := (List.getElem?_eq_some_iff.mp x2).1
      have l2 := (List.getElem?_eq_some_iff.mp y2).1
      have : k = k' := by
        rw [x1, y1] at q3
        exact (oN_eq (by omega) (by omega)).mp q3
      subst this
      rw [x2] at y2
      cases y2
      omega
    · rintro ⟨⟨⟨⟨⟨q2, q3⟩, q4⟩, q5⟩, q6⟩, q7⟩
      refine ⟨by omega, by rw [q2]; rfl, q3, q4, q5, q6, fun i hi => (sp_iff eS dS ?_ (by omega)).mpr (q7 i hi)⟩
      obtain ⟨k', cl', y1, y2, y3⟩ := hk
      have l1 := (List.getElem?_eq_some_iff.mp x2).1
      have l2 := (List.getElem?_eq_some_iff.mp y2).1
      have : k = k' := by
        rw [x1, y1] at q3
        exact (oN_eq (by omega) (by omega)).mp q3
      subst this
      rw [x2] at y2
      cases y2
      omega
  constructor
  · rintro ⟨j, j1, j2, hq⟩
    obtain ⟨i, rfl⟩ : ∃ i, j = i + 1 := ⟨j - 1, by omega⟩
    obtain ⟨x, hx⟩ : ∃ x, ms[i]? = some x := ⟨_, List.getElem?_eq_getElem (by omega)⟩
    exact ⟨x, List.mem_of_getElem? hx, (key i x hx).mp hq⟩
  · rintro ⟨x, hx, hq⟩
    obtain ⟨i, hi⟩ := List.mem_iff_getElem?.mp hx
    have := (List.getElem?_eq_some_iff.mp hi).1
    exact ⟨i + 1, by omega, by omega, (key i x hi).mpr hq⟩
theorem Mt1.mono {τ υ : Sg} {lst lst' : List Nat} {b b' : Nat} {cs cs' : List Cal} {j : Nat} {x : Mtd × Bool} (h : Mt1 τ lst b cs j x) (hc : ∀ (k : Nat) c, cs[k]? = some c → cs'[k]? = some c) (hi : ∀ a, 2501 + 4 * j ≤ a → a < 2501 + 4 * j + 4 → υ.i a = τ.i a) (hr : υ.r (2501 + 4 * j) = τ.r (2501 + 4 * j)) (hn : ∀ y, Rg lst 0 b y → τ.sh[y]? = some (Sh.obj 21) → Rg lst' 0 b' y ∧ υ.sh[y]? = some (Sh.obj 21) ∧ υ.i y = τ.i y ∧ υ.l y = τ.l y ∧ υ.r y = τ.r y) : Mt1 υ lst' b' cs' j x := by
  obtain ⟨⟨k, cl, x1, x2, x3⟩, e0, e1, e2, e3, e4, e10, eS, eT, eB⟩ := h
  have h0 := hi (2501 + 4 * j) (by omega) (by omega)
  refine ⟨⟨k, cl, x1, hc k cl x2, x3⟩, by rw [h0]; exact e0, by rw [h0]; exact e1, by rw [h0]; exact e2, by rw [h0]; exact e3, by rw [h0]; exact e4, by rw [h0]; exact e10, fun i s hs => ?_, ?_, ?_⟩
  · rw [hi (2501 + 4 * j + 1) (by omega) (by omega), hi (2501 + 4 * j + 2) (by omega) (by omega), hi (2501 + 4 * j + 3) (by omega) (by omega)]
    exact eS i s hs
  · rw [hr]
    exact TsN.mono hn _ _ eT
  · rw [hr]
    exact TrN.mono hn _ _ eB

/-! THE CLASS: space, what is asked -/
/-- two cuts?, one, other, most -/
abbrev AkQ : Type := Bool × Nat × Nat × Int
def akC (q : AkQ) : List Cut := if q.1 = true then [(q.2.1, q.2.2.1, q.2.2.2), (q.2.2.1, q.2.1, -q.2.2.2)] else [(q.2.1, q.2.2.1, q.2.2.2)]
def cuL (as : List AkQ) : List Cut := as.flatMap akC
/-- whether it holds -/
def akH (x : Nat → Int) (q : AkQ) : Bool := if q.1 = true then decide (x q.2.1 - x q.2.2.1 = q.2.2.2) else decide (x q.2.1 - x q.2.2.1 ≤ q.2.2.2)
def AkW (as : List AkQ) : Prop := ∀ q ∈ as, q.2.1 < 4 ∧ q.2.2.1 < 4 ∧ -8589934592 ≤ q.2.2.2 ∧ q.2.2.2 ≤ 8589934592
theorem cuL_app (a b : List AkQ) : cuL (a ++ b) = cuL a ++ cuL b := List.flatMap_append
theorem cuL_one (q : AkQ) : cuL [q] = akC q := by
  unfold cuL
  rw [List.flatMap_cons, List.flatMap_nil, List.append_nil]
theorem akC_len (q : AkQ) : (akC q).length = if q.1 = true then 2 else 1 := by
  unfold akC
  split <;> rfl
theorem cuL_le : ∀ as : List AkQ, (cuL as).length ≤ 2 * as.length
  | [] => Nat.le_refl _
  | q :: as => by
    have h := cuL_le as
    have e : cuL (q :: as) = akC q ++ cuL as := rfl
    rw [e, List.length_append, akC_len, List.length_cons]
    split <;> omega
theorem cuL_W {as : List AkQ} (h : AkW as) : CuW (cuL as) := fun k c hc => by
  obtain ⟨q, hq, hm⟩ := List.mem_flatMap.mp (List.mem_of_getElem? hc)
  have := h q hq
  unfold akC at hm
  split at hm
  · rcases List.mem_cons.mp hm with rfl | hm
    · exact this
    · rw [List.mem_singleton] at hm
      subst hm
      exact ⟨this.2.1, this.1, by dsimp only; omega, by dsimp only; omega⟩
  · rw [List.mem_singleton] at hm
    subst hm
    exact this
/-- the place of what is asked among the cuts -/
theorem cuL_at {as : List AkQ} {k : Nat} {q : AkQ} (h : as[k]? = some q) : ∃ l, cuL as = cuL (as.take k) ++ (akC q ++ l) := by
  obtain ⟨hk, rfl⟩ := List.getElem?_eq_some_iff.mp h
  refine ⟨cuL (as.drop (k + 1)), ?_⟩
  have e : as = as.take k ++ (as[k] :: as.drop (k + 1)) := by
    rw [List.getElem_cons_drop, List.take_append_drop]
  conv => lhs; rw [e, cuL_app]
  rfl
/-- what is asked, in the heap -/
def SpS (A : Nat) (as : List AkQ) (σ : Sg) : Prop := SpK A (cuL as) σ ∧ (σ.i A 3 = Int32.ofNat as.length ∧ as.length ≤ 18) ∧ ∀ (k : Nat) q, as[k]? = some q → σ.i (A + 1) k = Int32.ofNat (cuL (as.take k)).length ∧ σ.i (A + 2) k = if q.1 = true then 1 else 0
/-- what asking leaves as it is -/
def AcF (A : Nat) (σ τ : Sg) : Prop := XF (fun a => A ≤ a ∧ a ≤ A + 5) σ τ ∧ (∀ k, k ≠ 3 → k ≠ 7 → τ.i A k = σ.i A k) ∧ τ.l A = σ.l A
theorem AcF.refl (A : Nat) (σ : Sg) : AcF A σ σ := ⟨XF.refl _ _, fun _ _ _ => rfl, rfl⟩
theorem AcF.tr {A : Nat} {σ τ υ : Sg} (h : AcF A σ τ) (g : AcF A τ υ) : AcF A σ υ := ⟨h.1.tr g.1, fun k q1 q2 => (g.2.1 k q1 q2).trans (h.2.1 k q1 q2), g.2.2.trans h.2.2⟩
theorem AcF.w {A a k : Nat} {σ τ : Sg} {v : Int32} (h : AcF A σ τ) (h1 : A < a ∧ a ≤ A + 5) : AcF A σ (τ.wi a k v) := ⟨h.1.wi (by omega), fun j q1 q2 => (wi_ne (by omega)).trans (h.2.1 j q1 q2), h.2.2⟩
theorem AcF.wA {A k : Nat} {σ τ : Sg} {v : Int32} (h : AcF A σ τ) (h1 : k = 3 ∨ k = 7) : AcF A σ (τ.wi A k v) := ⟨h.1.wi (by omega), fun j q1 q2 => (wi_ne (by omega)).trans (h.2.1 j q1 q2), h.2.2⟩
theorem AcF.wl {A a k : Nat} {σ τ : Sg} {v : Int64} (h : AcF A σ τ) (h1 : A < a ∧ a ≤ A + 5) : AcF A σ (τ.wl a k v) := ⟨h.1.wl (by omega), h.2.1, (funext fun j => wl_ne (by omega)).trans h.2.2⟩
section ASK
variable {Z : zT} {d A : Nat} {as : List AkQ} {q : AkQ} {σ τ υ : Sg} {K : kS}
theorem ac_52 {l1 : Int32} {l4 : Int64} {k c : Nat} {s2 : Int32} (hA : SpA A) (F : FX ΦC σ.sh σ.r) (h3 : σ.i A 3 = Int32.ofNat k) (h7 : σ.i A 7 = Int32.ofNat c) (hk : k < 18) (hc : c + 2 ≤ 36) (h : (¬ l1 = 1 → K (.inl none) (((((((σ.wi (A + 2) k (vp_nar .boolean s2)).wi A 3 (Int32.ofNat (k + 1))).wi (A + 3) c (Int32.ofNat q.2.1)).wi (A + 4) c (Int32.ofNat q.2.2.1)).wl (A + 5) c l4).wi A 7 (Int32.ofNat (c + 1))))) ∧ (l1 = 1 → K (.inl none) (((((((((((σ.wi (A + 2) k (vp_nar .boolean s2)).wi A 3 (Int32.ofNat (k + 1))).wi (A + 3) c (Int32.ofNat q.2.1)).wi (A + 4) c (Int32.ofNat q.2.2.1)).wl (A + 5) c l4).wi A 7 (Int32.ofNat (c + 1))).wi (A + 3) (c + 1) (Int32.ofNat q.2.2.1)).wi (A + 4) (c + 1) (Int32.ofNat q.2.1)).wl (A + 5) (c + 1) (-l4)).wi A 7 (Int32.ofNat (c + 2)))))) : C_X9_addCut_52 Z (d + 1) σ A l1 (Int32.ofNat q.2.1) (Int32.ofNat q.2.2.1) l4 (A + 2) (Int32.ofNat k) s2 K := by
  refine T_X9_addCut_52 F hA.p (by rcases hA with rfl | rfl <;> rfl) ?_
  rcases hA with rfl | rfl
  all_goals
    simp only [wi_i, wl_i, h3, h7, oN_1, oN_t (show k < 2147483648 by omega), oN_t (show c < 2147483648 by omega), oN_t (show c + 1 < 2147483648 by omega), Nat.reduceAdd, Nat.reduceEqDiff, and_true, and_false, true_and, false_and, reduceIte, if_true, if_false] at h ⊢
    exact ⟨ib_oN (by omega) (by decide), ib_oN (by omega) (by decide), ib_oN (by omega) (by decide), ib_oN (by omega) (by decide), h.1, fun z => ⟨ib_oN (by omega) (by decide), ib_oN (by omega) (by decide), ib_oN (by omega) (by decide), h.2 z⟩⟩
theorem SpS.ad (S : SpS A as σ) (h : as.length < 18) (e3 : τ.i A 3 = Int32.ofNat (as.length + 1)) (e7 : τ.i A 7 = Int32.ofNat ((cuL as).length + (akC q).length)) (e1 : ∀ j, j < as.length → τ.i (A + 1) j = σ.i (A + 1) j ∧ τ.i (A + 2) j = σ.i (A + 2) j) (n1 : τ.i (A + 1) as.length = Int32.ofNat (cuL as).length) (n2 : τ.i (A + 2) as.length = if q.1 = true then 1 else 0) (e4 : ∀ j, j < (cuL as).length → τ.i (A + 3) j = σ.i (A + 3) j ∧ τ.i (A + 4) j = σ.i (A + 4) j ∧ τ.l (A + 5) j = σ.l (A + 5) j) (n4 : ∀ (j : Nat) p, (akC q)[j]? = some p → τ.i (A + 3) ((cuL as).length + j) = Int32.ofNat p.1 ∧ τ.i (A + 4) ((cuL as).length + j) = Int32.ofNat p.2.1 ∧ (τ.l (A + 5) ((cuL as).length + j)).toInt = p.2.2) : SpS A (as ++ [q]) τ := by
  obtain ⟨⟨⟨s1, s2⟩, s3⟩, ⟨s4, s5⟩, s6⟩ := S
  have le := cuL_le (as ++ [q])
  rw [List.length_append, List.length_singleton] at le
  have e : cuL (as ++ [q]) = cuL as ++ akC q := by rw [cuL_app, cuL_one]
  refine ⟨⟨⟨by rw [e7, e, List.length_append], by omega⟩, fun k p hp => ?_⟩, ⟨by rw [e3, List.length_append, List.length_singleton], by rw [List.length_append, List.length_singleton]; omega⟩, fun k p hp => ?_⟩
  · rw [e] at hp
    by_cases hk : k < (cuL as).length
    · rw [List.getElem?_append_left hk] at hp
      rw [(e4 k hk).1, (e4 k hk).2.1, (e4 k hk).2.2]
      exact s3 k p hp
    · rw [List.getElem?_append_right (by omega)] at hp
      have := n4 _ p hp
      rw [show (cuL as).length + (k - (cuL as).length) = k by omega] at this
      exact this
  · have hl := (List.getElem?_eq_some_iff.mp hp).1
    rw [List.length_append, List.length_singleton] at hl
    rw [List.take_append_of_le_length (by omega)]
    by_cases hk : k < as.length
    · rw [List.getElem?_append_left hk] at hp
      rw [(e1 k hk).1, (e1 k hk).2]
      exact s6 k p hp
    · have ek : k = as.length := by omega
      subst ek
      rw [List.getElem?_append_right (Nat.le_refl _), Nat.sub_self] at hp
      cases hp
      rw [List.take_length]
      exact ⟨n1, n2⟩
theorem cl_addCut {l1 : Int32} {l4 : Int64} (hA : SpA A) (F : FX ΦC σ.sh σ.r) (S : SpS A as σ) (h : as.length < 18) (h1 : l1 = 1 ↔ q.1 = true) (h4 : l4.toInt = q.2.2.2) (hb : -8589934592 ≤ q.2.2.2 ∧ q.2.2.2 ≤ 8589934592) (k : ∀ τ, AcF A σ τ → SpS A (as ++ [q]) τ → K (.inl none) τ) : C_X9_addCut_0 Z (d + 1) σ A l1 (Int32.ofNat q.2.1) (Int32.ofNat q.2.2.1) l4 K := by
  have s3 := S.2.1.1
  have s7 := S.1.1.1
  have le := cuL_le as
  have hc : (cuL as).length + 2 ≤ 36 := by omega
  generalize hcl : (cuL as).length = c at *
  have f1 : AcF A σ (σ.wi (A + 1) as.length (Int32.ofNat c)) := (AcF.refl _ _).w (by omega)
  have w3 : (σ.wi (A + 1) as.length (Int32.ofNat c)).i A 3 = Int32.ofNat as.length := (wi_ne (by omega)).trans s3
  have w7 : (σ.wi (A + 1) as.length (Int32.ofNat c)).i A 7 = Int32.ofNat c := (wi_ne (by omega)).trans s7
  have ng : (-l4).toInt = -q.2.2.2 := by rw [i64_neg (by omega), h4]
  have go : ∀ s2 : Int32, s2 = (if q.1 = true then 1 else 0) → C_X9_addCut_52 Z (d + 1) (σ.wi (A + 1) as.length (Int32.ofNat c)) A l1 (Int32.ofNat q.2.1) (Int32.ofNat q.2.2.1) l4 (A + 2) (Int32.ofNat as.length) s2 K := fun s2 e2 => by
    have ev : vp_nar .boolean s2 = if q.1 = true then 1 else 0 := by
      rw [e2]
      split <;> rfl
    refine ac_52 (σ := σ.wi (A + 1) as.length (Int32.ofNat c)) hA F w3 w7 h hc ⟨fun no => ?_, fun yes => ?_⟩
    · have qf : ¬ q.1 = true := fun z => no (h1.mpr z)
      have ea : akC q = [(q.2.1, q.2.2.1, q.2.2.2)] := if_neg qf
      refine k _ (f1.w (by omega) |>.wA (by omega) |>.w (by omega) |>.w (by omega) |>.wl (by omega) |>.wA (by omega)) (S.ad h ?_ ?_ (fun j hj => ?_) ?_ ?_ (fun j hj => ?_) (fun j p hp => ?_))
      · rw [wi_ne (by omega), wl_i, wi_ne (by omega), wi_ne (by omega), wi_at]
      · rw [wi_at, ea, hcl]
        rfl
      · rw [wi_ne (by omega), wl_i, wi_ne (by omega), wi_ne (by omega), wi_ne (by omega), wi_ne (by omega), wi_ne (by omega)]
        refine ⟨rfl, ?_⟩
        rw [wi_ne (by omega), wl_i, wi_ne (by omega), wi_ne (by omega), wi_ne (by omega), wi_ne (by omega), wi_ne (by omega)]
      · rw [wi_ne (by omega), wl_i, wi_ne (by omega), wi_ne (by omega), wi_ne (by omega), wi_ne (by omega), wi_at, hcl]
      · rw [wi_ne (by omega), wl_i, wi_ne (by omega), wi_ne (by omega), wi_ne (by omega), wi_at, ev]
      · rw [hcl] at hj
        rw [wi_ne (by omega), wl_i, wi_ne (by omega), wi_ne (by omega), wi_ne (by omega), wi_ne (by omega), wi_ne (by omega)]
        refine ⟨rfl, ?_, wl_ne (by omega)⟩
        rw [wi_ne (by omega), wl_i, wi_ne (by omega), wi_ne (by omega), wi_ne (by omega), wi_ne (by omega), wi_ne (by omega)]
      · rw [ea] at hp
        obtain ⟨hj, ep⟩ := List.getElem?_eq_some_iff.mp hp
        have hj : j = 0 := Nat.lt_one_iff.mp hj
        subst hj
        subst ep
        rw [hcl]
        simp only [Nat.add_zero]
        refine ⟨?_, ?_, ?_⟩
        · rw [wi_ne (by omega), wl_i, wi_ne (by omega), wi_at]
          rfl
        · rw [wi_ne (by omega), wl_i, wi_at]
          rfl
        · rw [wi_l, wl_eq]
          exact h4
    · have qt : q.1 = true := h1.mp yes
      have ea : akC q = [(q.2.1, q.2.2.1, q.2.2.2), (q.2.2.1, q.2.1, -q.2.2.2)] := if_pos qt
      refine k _ (f1.w (by omega) |>.wA (by omega) |>.w (by omega) |>.w (by omega) |>.wl (by omega) |>.wA (by omega) |>.w (by omega) |>.w (by omega) |>.wl (by omega) |>.wA (by omega)) (S.ad h ?_ ?_ (fun j hj => ?_) ?_ ?_ (fun j hj => ?_) (fun j p hp => ?_))
      · rw [wi_ne (by omega), wl_i, wi_ne (by omega), wi_ne (by omega), wi_ne (by omega), wl_i, wi_ne (by omega), wi_ne (by omega), wi_at]
      · rw [wi_at, ea, hcl]
        rfl
      · rw [wi_ne (by omega), wl_i, wi_ne (by omega), wi_ne (by omega), wi_ne (by omega), wl_i, wi_ne (by omega), wi_ne (by omega), wi_ne (by omega), wi_ne (by omega), wi_ne (by omega)]
        refine ⟨rfl, ?_⟩
        rw [wi_ne (by omega), wl_i, wi_ne (by omega), wi_ne (by omega), wi_ne (by omega), wl_i, wi_ne (by omega), wi_ne (by omega), wi_ne (by omega), wi_ne (by omega), wi_ne (by omega)]
      · rw [wi_ne (by omega), wl_i, wi_ne (by omega), wi_ne (by omega), wi_ne (by omega), wl_i, wi_ne (by omega), wi_ne (by omega), wi_ne (by omega), wi_ne (by omega), wi_at, hcl]
      · rw [wi_ne (by omega), wl_i, wi_ne (by omega), wi_ne (by omega), wi_ne (by omega), wl_i, wi_ne (by omega), wi_ne (by omega), wi_ne (by omega), wi_at, ev]
      · rw [hcl] at hj
        rw [wi_ne (by omega), wl_i, wi_ne (by omega), wi_ne (by omega), wi_ne (by omega), wl_i, wi_ne (by omega), wi_ne (by omega), wi_ne (by omega), wi_ne (by omega), wi_ne (by omega)]
        refine ⟨rfl, ?_, ?_⟩
        · rw [wi_ne (by omega), wl_i, wi_ne (by omega), wi_ne (by omega), wi_ne (by omega), wl_i, wi_ne (by omega), wi_ne (by omega), wi_ne (by omega), wi_ne (by omega), wi_ne (by omega)]
        · rw [wi_l, wl_ne (by omega), wi_l, wi_l, wi_l, wl_ne (by omega)]
          rfl
      · rw [ea] at hp
        obtain ⟨hj, ep⟩ := List.getElem?_eq_some_iff.mp hp
        have hj : j = 0 ∨ j = 1 := by
          have : j < 2 := hj
          omega
        rw [hcl]
        rcases hj with rfl | rfl
        · subst ep
          simp only [Nat.add_zero]
          refine ⟨?_, ?_, ?_⟩
          · rw [wi_ne (by omega), wl_i, wi_ne (by omega), wi_ne (by omega), wi_ne (by omega), wl_i, wi_ne (by omega), wi_at]
            rfl
          · rw [wi_ne (by omega), wl_i, wi_ne (by omega), wi_ne (by omega), wi_ne (by omega), wl_i, wi_at]
            rfl
          · rw [wi_l, wl_ne (by omega), wi_l, wi_l, wi_l, wl_eq]
            exact h4
        · subst ep
          refine ⟨?_, ?_, ?_⟩
          · rw [wi_ne (by omega), wl_i, wi_ne (by omega), wi_at]
            rfl
          · rw [wi_ne (by omega), wl_i, wi_at]
            rfl
          · rw [wi_l, wl_eq]
            exact ng
  refine T_X9_addCut_0 F hA.p ?_
  rw [s3, s7, show (2 : Int32) = Int32.ofNat 2 from rfl, oN_add, show (18 : Int32) ≤ Int32.ofNat as.length ↔ 18 ≤ as.length from oN_le (a := 18) (by decide) (by omega), show Int32.ofNat (c + 2) ≤ 36 ↔ c + 2 ≤ 36 from oN_le (b := 36) (by omega) (by decide), oN_t (by omega), w3]
  refine ⟨fun z => absurd z (by omega), fun _ => ⟨fun _ => ⟨ib_oN h (by decide), fun z => go 0 ?_, fun z => go 1 ?_⟩, fun z => absurd hc z⟩⟩
  · rw [if_neg (fun y => z (h1.mpr y))]
  · rw [if_pos (h1.mp z)]
end ASK

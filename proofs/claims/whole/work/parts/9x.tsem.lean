/-! TESTS: what they mean; what they ask, one after the other; what is known of them when only some answers are -/
def pbOf : Ast → Int
  | .nest p _ => p
  | _ => 0
def moOf : Ast → Int
  | .nest _ (.nest m _) => m
  | _ => 0
/-- a test as it should be: kn kinds, pl places -/
def tsW (kn pl : Nat) : Ast → Prop
  | .tag op (.nest v (.nest w (.append a (.append b .nil)))) =>
    (op = 8 ∧ b = .nil ∧ (v = 15 ∨ v = 16 ∨ v = 17) ∧ (-1 ≤ w ∧ w < pl) ∧ ∃ pb mo, a = .nest pb (.nest mo .nil) ∧ (-1 ≤ pb ∧ pb < pl) ∧ (-4294967294 ≤ mo ∧ mo ≤ 4294967294)) ∨
    (op = 9 ∧ a = .nil ∧ b = .nil ∧ (0 ≤ v ∧ v < kn) ∧ (0 ≤ w ∧ w < pl)) ∨ ((op = 20 ∨ op = 21) ∧ tsW kn pl a ∧ tsW kn pl b) ∨ (op = 22 ∧ tsW kn pl a ∧ b = .nil)
  | _ => False
theorem ts_ind {kn pl : Nat} {P : Ast → Prop}
    (h8 : ∀ v w pb mo, (v = 15 ∨ v = 16 ∨ v = 17) → (-1 ≤ w ∧ w < (pl : Int)) → (-1 ≤ pb ∧ pb < (pl : Int)) → (-4294967294 ≤ mo ∧ mo ≤ 4294967294) → P (aN 8 v w (.nest pb (.nest mo .nil)) .nil .nil))
    (h9 : ∀ v w, (0 ≤ v ∧ v < (kn : Int)) → (0 ≤ w ∧ w < (pl : Int)) → P (aN 9 v w .nil .nil .nil))
    (h2 : ∀ op v w a b, (op = 20 ∨ op = 21) → tsW kn pl a → tsW kn pl b → P a → P b → P (aN op v w a b .nil))
    (h22 : ∀ v w a, tsW kn pl a → P a → P (aN 22 v w a .nil .nil)) : ∀ x, tsW kn pl x → P x
  | .tag op (.nest v (.nest w (.append a (.append b .nil)))), h => by
    rcases h with ⟨rfl, rfl, h1, h2', pb, mo, rfl, h3, h4⟩ | ⟨rfl, rfl, rfl, h1, h2'⟩ | ⟨h1, ha, hb⟩ | ⟨rfl, ha, rfl⟩
    · exact h8 v w pb mo h1 h2' h3 h4
    · exact h9 v w h1 h2'
    · exact h2 op v w a b h1 ha hb (ts_ind h8 h9 h2 h22 a ha) (ts_ind h8 h9 h2 h22 b hb)
    · exact h22 v w a ha (ts_ind h8 h9 h2 h22 a ha)
  | .nil, h => h.elim
  | .line, h => h.elim
  | .align _, h => h.elim
  | .text _, h => h.elim
  | .nest _ _, h => h.elim
  | .append _ _, h => h.elim
  | .group _ _, h => h.elim
  | .tag _ .nil, h => h.elim
  | .tag _ .line, h => h.elim
  | .tag _ (.align _), h => h.elim
  | .tag _ (.text _), h => h.elim
  | .tag _ (.append _ _), h => h.elim
  | .tag _ (.group _ _), h => h.elim
  | .tag _ (.tag _ _), h => h.elim
  | .tag _ (.nest _ .nil), h => h.elim
  | .tag _ (.nest _ .line), h => h.elim
  | .tag _ (.nest _ (.align _)), h => h.elim
  | .tag _ (.nest _ (.text _)), h => h.elim
  | .tag _ (.nest _ (.append _ _)), h => h.elim
  | .tag _ (.nest _ (.group _ _)), h => h.elim
  | .tag _ (.nest _ (.tag _ _)), h => h.elim
  | .tag _ (.nest _ (.nest _ .nil)), h => h.elim
  | .tag _ (.nest _ (.nest _ .line)), h => h.elim
  | .tag _ (.nest _ (.nest _ (.align _))), h => h.elim
  | .tag _ (.nest _ (.nest _ (.text _))), h => h.elim
  | .tag _ (.nest _ (.nest _ (.nest _ _))), h => h.elim
  | .tag _ (.nest _ (.nest _ (.group _ _))), h => h.elim
  | .tag _ (.nest _ (.nest _ (.tag _ _))), h => h.elim
  | .tag _ (.nest _ (.nest _ (.append _ .nil))), h => h.elim
  | .tag _ (.nest _ (.nest _ (.append _ .line))), h => h.elim
  | .tag _ (.nest _ (.nest _ (.append _ (.align _)))), h => h.elim
  | .tag _ (.nest _ (.nest _ (.append _ (.text _)))), h => h.elim
  | .tag _ (.nest _ (.nest _ (.append _ (.nest _ _)))), h => h.elim
  | .tag _ (.nest _ (.nest _ (.append _ (.group _ _)))), h => h.elim
  | .tag _ (.nest _ (.nest _ (.append _ (.tag _ _)))), h => h.elim
  | .tag _ (.nest _ (.nest _ (.append _ (.append _ .line)))), h => h.elim
  | .tag _ (.nest _ (.nest _ (.append _ (.append _ (.align _))))), h => h.elim
  | .tag _ (.nest _ (.nest _ (.append _ (.append _ (.text _))))), h => h.elim
  | .tag _ (.nest _ (.nest _ (.append _ (.append _ (.nest _ _))))), h => h.elim
  | .tag _ (.nest _ (.nest _ (.append _ (.append _ (.append _ _))))), h => h.elim
  | .tag _ (.nest _ (.nest _ (.append _ (.append _ (.group _ _))))), h => h.elim
  | .tag _ (.nest _ (.nest _ (.append _ (.append _ (.tag _ _))))), h => h.elim
def cmS (v d : Int) : Bool := if v = 16 then decide (d = 0) else if v = 17 then decide (d ≤ 0) else decide (d < 0)
def trm (v : Nat → Int) (p : Int) : Int := if p < 0 then 0 else v p.toNat
/-- the numbers, 0 before them -/
def vx (v : Nat → Int) (i : Nat) : Int := if i = 0 then 0 else v (i - 1)
theorem trm_vx (v : Nat → Int) {p : Int} (h : -1 ≤ p) : trm v p = vx v (p + 1).toNat := by
  unfold trm vx
  by_cases q : p < 0
  · rw [if_pos q, if_pos (by omega)]
  · rw [if_neg q, if_neg (by omega), show (p + 1).toNat - 1 = p.toNat by omega]
section TSEM
variable (bl : Nat → Nat → Bool) (k : Nat → Nat)
/-- whether it holds (no test: it does) -/
def tsB (v : Nat → Int) : Ast → Bool
  | .tag op (.nest y (.nest w (.append a (.append b .nil)))) => if op = 20 then tsB v a || tsB v b else if op = 21 then tsB v a && tsB v b else if op = 22 then !tsB v a else if op = 9 then bl (k w.toNat) y.toNat else cmS y (trm v w - trm v (pbOf a) + moOf a)
  | _ => true
end TSEM
/-- its comparisons: A, B, C: how does x A - x B + C stand to 0? -/
def atL : Ast → List (Nat × Nat × Int)
  | .tag op (.nest _ (.nest w (.append a (.append b .nil)))) => if op = 8 then [((w + 1).toNat, (pbOf a + 1).toNat, moOf a)] else if op = 9 then [] else atL a ++ atL b
  | _ => []
def n3 (a : Nat) : Nat := if a = 2 then 2 else 1 - a
def b3 (a b : Nat) : Nat := if a = 0 ∨ b = 0 then 0 else if a = 1 ∧ b = 1 then 1 else 2
def sg3 (z : Int) : Int := if z < 0 then -1 else if z = 0 then 0 else 1
section TSEM3
variable (bl : Nat → Nat → Bool) (k : Nat → Nat) (oc : Nat → Int) (at' : Nat)
def hl3 : Ast → Nat → Nat
  | .tag op (.nest y (.nest w (.append a (.append b .nil)))), c => if op = 20 then n3 (b3 (n3 (hl3 a c)) (n3 (hl3 b (c + (atL a).length)))) else if op = 21 then b3 (hl3 a c) (hl3 b (c + (atL a).length)) else if op = 22 then n3 (hl3 a c) else if op = 9 then (if bl (k w.toNat) y.toNat = true then 1 else 0) else if c < at' then (if cmS y (oc c) = true then 1 else 0) else 2
  | _, _ => 1
end TSEM3
theorem n3_le {a : Nat} (h : a ≤ 2) : n3 a ≤ 2 := by
  unfold n3
  split <;> omega
theorem b3_le (a b : Nat) : b3 a b ≤ 2 := by
  unfold b3
  split
  · omega
  · split <;> omega
theorem cm_sg (y z : Int) : cmS y (sg3 z) = cmS y z := by
  have e : (sg3 z = 0 ↔ z = 0) ∧ (sg3 z ≤ 0 ↔ z ≤ 0) ∧ (sg3 z < 0 ↔ z < 0) := by
    unfold sg3
    by_cases h : z < 0
    · rw [if_pos h]
      omega
    · rw [if_neg h]
      by_cases h0 : z = 0
      · rw [if_pos h0]
        omega
      · rw [if_neg h0]
        omega
  unfold cmS
  simp only [e.1, e.2.1, e.2.2]
section TSEM4
variable {bl : Nat → Nat → Bool} {k : Nat → Nat} {oc : Nat → Int} {at' kn pl : Nat} {v : Nat → Int}
theorem tsB_2 (op : Nat) (y w : Int) (a b : Ast) : tsB bl k v (aN op y w a b .nil) = if op = 20 then tsB bl k v a || tsB bl k v b else if op = 21 then tsB bl k v a && tsB bl k v b else if op = 22 then !tsB bl k v a else if op = 9 then bl (k w.toNat) y.toNat else cmS y (trm v w - trm v (pbOf a) + moOf a) := rfl
theorem atL_2 (op : Nat) (y w : Int) (a b : Ast) : atL (aN op y w a b .nil) = if op = 8 then [((w + 1).toNat, (pbOf a + 1).toNat, moOf a)] else if op = 9 then [] else atL a ++ atL b := rfl
theorem hl3_2 (op : Nat) (y w : Int) (a b : Ast) (c : Nat) : hl3 bl k oc at' (aN op y w a b .nil) c = if op = 20 then n3 (b3 (n3 (hl3 bl k oc at' a c)) (n3 (hl3 bl k oc at' b (c + (atL a).length)))) else if op = 21 then b3 (hl3 bl k oc at' a c) (hl3 bl k oc at' b (c + (atL a).length)) else if op = 22 then n3 (hl3 bl k oc at' a c) else if op = 9 then (if bl (k w.toNat) y.toNat = true then 1 else 0) else if c < at' then (if cmS y (oc c) = true then 1 else 0) else 2 := rfl
theorem hl3_le (x : Ast) (h : tsW kn pl x) : ∀ c, hl3 bl k oc at' x c ≤ 2 := by
  refine ts_ind (kn := kn) (pl := pl) (P := fun x => ∀ c, hl3 bl k oc at' x c ≤ 2) ?_ ?_ ?_ ?_ x h
  · intro v w pb mo _ _ _ _ c
    rw [hl3_2]
    simp only [show ¬ (8 : Nat) = 20 by decide, show ¬ (8 : Nat) = 21 by decide, show ¬ (8 : Nat) = 22 by decide, show ¬ (8 : Nat) = 9 by decide, if_false]
    split
    · split <;> omega
    · omega
  · intro v w _ _ c
    rw [hl3_2]
    simp only [show ¬ (9 : Nat) = 20 by decide, show ¬ (9 : Nat) = 21 by decide, show ¬ (9 : Nat) = 22 by decide, if_false, if_true]
    split <;> omega
  · intro op v w a b ho _ _ ha hb c
    rw [hl3_2]
    rcases ho with rfl | rfl
    · rw [if_pos rfl]
      exact n3_le (b3_le _ _)
    · rw [if_neg (by decide), if_pos rfl]
      exact b3_le _ _
  · intro v w a _ ha c
    rw [hl3_2, if_neg (by decide), if_neg (by decide), if_pos rfl]
    exact n3_le (ha c)
/-- the answers that are known are those of v -/
def OcV (oc : Nat → Int) (at' : Nat) (v : Nat → Int) (L : List (Nat × Nat × Int)) (c : Nat) : Prop := ∀ (i : Nat) A B C, L[i]? = some (A, B, C) → c + i < at' → oc (c + i) = sg3 (vx v A - vx v B + C)
theorem OcV.l {L M : List (Nat × Nat × Int)} {c : Nat} (h : OcV oc at' v (L ++ M) c) : OcV oc at' v L c := fun i A B C e hi => h i A B C (by rw [List.getElem?_append_left (List.getElem?_eq_some_iff.mp e).1]; exact e) hi
theorem OcV.r {L M : List (Nat × Nat × Int)} {c : Nat} (h : OcV oc at' v (L ++ M) c) : OcV oc at' v M (c + L.length) := fun i A B C e hi => by
  have := h (L.length + i) A B C (by rw [List.getElem?_append_right (by omega), show L.length + i - L.length = i by omega]; exact e) (by omega)
  rw [show c + L.length + i = c + (L.length + i) by omega]
  exact this
/-- what is known of the test is right, and with all its answers it is known -/
theorem hl3_ok (x : Ast) (h : tsW kn pl x) : ∀ c, (OcV oc at' v (atL x) c → hl3 bl k oc at' x c ≠ 2 → (hl3 bl k oc at' x c = 1 ↔ tsB bl k v x = true)) ∧ (c + (atL x).length ≤ at' → hl3 bl k oc at' x c ≠ 2) := by
  refine ts_ind (kn := kn) (pl := pl) (P := fun x => ∀ c, (OcV oc at' v (atL x) c → hl3 bl k oc at' x c ≠ 2 → (hl3 bl k oc at' x c = 1 ↔ tsB bl k v x = true)) ∧ (c + (atL x).length ≤ at' → hl3 bl k oc at' x c ≠ 2)) ?_ ?_ ?_ ?_ x h
  · intro y w pb mo _ hw hp _ c
    rw [hl3_2, atL_2, tsB_2]
    simp only [show ¬ (8 : Nat) = 20 by decide, show ¬ (8 : Nat) = 21 by decide, show ¬ (8 : Nat) = 22 by decide, show ¬ (8 : Nat) = 9 by decide, if_false, if_true]
    refine ⟨fun ho hn => ?_, fun hc => ?_⟩
    · by_cases hc : c < at'
      · rw [if_pos hc] at hn ⊢
        have := ho 0 _ _ _ rfl hc
        rw [show c + 0 = c from rfl] at this
        rw [this, cm_sg, ← trm_vx v hw.1, ← trm_vx v (p := pbOf (.nest pb (.nest mo .nil))) hp.1]
        by_cases q : cmS y (trm v w - trm v (pbOf (.nest pb (.nest mo .nil))) + moOf (.nest pb (.nest mo .nil))) = true
        · rw [if_pos q]
          exact ⟨fun _ => q, fun _ => rfl⟩
        · rw [if_neg q]
          exact ⟨fun z => absurd z (by decide), fun z => absurd z q⟩
      · rw [if_neg hc] at hn
        exact absurd rfl hn
    · have hc : c + 1 ≤ at' := hc
      rw [if_pos (by omega)]
      split <;> decide
  · intro y w _ _ c
    rw [hl3_2, tsB_2]
    simp only [show ¬ (9 : Nat) = 20 by decide, show ¬ (9 : Nat) = 21 by decide, show ¬ (9 : Nat) = 22 by decide, if_false, if_true]
    refine ⟨fun _ _ => ?_, fun _ => by split <;> decide⟩
    by_cases q : bl (k w.toNat) y.toNat = true
    · rw [if_pos q]
      exact ⟨fun _ => q, fun _ => rfl⟩
    · rw [if_neg q]
      exact ⟨fun z => absurd z (by decide), fun z => absurd z q⟩
  · intro op y w a b ho wa wb ha hb c
    have la := hl3_le (bl := bl) (k := k) (oc := oc) (at' := at') a wa c
    have lb := hl3_le (bl := bl) (k := k) (oc := oc) (at' := at') b wb (c + (atL a).length)
    have eL : atL (aN op y w a b .nil) = atL a ++ atL b := by
      rw [atL_2, if_neg (by omega), if_neg (by omega)]
    have ha := ha c
    have hb := hb (c + (atL a).length)
    rw [eL, hl3_2, tsB_2]
    refine ⟨fun hoc hn => ?_, fun hc => ?_⟩
    · have h1 := ha.1 hoc.l
      have h2 := hb.1 hoc.r
      clear ha hb hoc
      generalize hl3 bl k oc at' a c = p at *
      generalize hl3 bl k oc at' b (c + (atL a).length) = q at *
      generalize tsB bl k v a = s at *
      generalize tsB bl k v b = u at *
      rcases ho with rfl | rfl
      · simp only [if_true] at hn ⊢
        rcases (by omega : p = 0 ∨ p = 1 ∨ p = 2) with rfl | rfl | rfl <;> rcases (by omega : q = 0 ∨ q = 1 ∨ q = 2) with rfl | rfl | rfl <;> cases s <;> cases u <;> simp_all [n3, b3]
      · simp only [show ¬ (21 : Nat) = 20 by decide, if_true, if_false] at hn ⊢
        rcases (by omega : p = 0 ∨ p = 1 ∨ p = 2) with rfl | rfl | rfl <;> rcases (by omega : q = 0 ∨ q = 1 ∨ q = 2) with rfl | rfl | rfl <;> cases s <;> cases u <;> simp_all [n3, b3]
    · rw [List.length_append] at hc
      have h1 := ha.2 (by omega)
      have h2 := hb.2 (by omega)
      clear ha hb
      generalize hl3 bl k oc at' a c = p at *
      generalize hl3 bl k oc at' b (c + (atL a).length) = q at *
      rcases ho with rfl | rfl
      · simp only [if_true]
        rcases (by omega : p = 0 ∨ p = 1) with rfl | rfl <;> rcases (by omega : q = 0 ∨ q = 1) with rfl | rfl <;> decide
      · simp only [show ¬ (21 : Nat) = 20 by decide, if_true, if_false]
        rcases (by omega : p = 0 ∨ p = 1) with rfl | rfl <;> rcases (by omega : q = 0 ∨ q = 1) with rfl | rfl <;> decide
  · intro y w a wa ha c
    have la := hl3_le (bl := bl) (k := k) (oc := oc) (at' := at') a wa c
    have eL : atL (aN 22 y w a .nil .nil) = atL a := by
      rw [atL_2, if_neg (by omega), if_neg (by omega)]
      exact List.append_nil _
    have ha := ha c
    rw [eL, hl3_2, tsB_2]
    simp only [show ¬ (22 : Nat) = 20 by decide, show ¬ (22 : Nat) = 21 by decide, if_true, if_false]
    refine ⟨fun hoc hn => ?_, fun hc => ?_⟩
    · have h1 := ha.1 hoc
      clear ha hoc
      generalize hl3 bl k oc at' a c = p at *
      generalize tsB bl k v a = s at *
      rcases (by omega : p = 0 ∨ p = 1 ∨ p = 2) with rfl | rfl | rfl <;> cases s <;> simp_all [n3]
    · have h1 := ha.2 hc
      clear ha
      generalize hl3 bl k oc at' a c = p at *
      rcases (by omega : p = 0 ∨ p = 1) with rfl | rfl <;> decide
end TSEM4
/-! METHODS: what they take -/
section MSEM
variable (pl : Nat) (sp : List Spc)
def hsI (i : Nat) : Bool := (sp.getD i (0, false, 0)).2.1
def eqI (i : Nat) : Int := (sp.getD i (0, false, 0)).2.2
/-- the numbers it wants -/
def eqL : List (Nat × Nat × Int) := ((List.range pl).filter (hsI sp)).map fun i => (i + 1, 0, -eqI sp i)
def atM (x : Ast) : List (Nat × Nat × Int) := eqL pl sp ++ atL x
/-- whether it takes these numbers, of these kinds -/
def tkM (bl : Nat → Nat → Bool) (k : Nat → Nat) (x : Ast) (v : Nat → Int) : Bool := ((List.range pl).all fun i => !hsI sp i || decide (v i = eqI sp i)) && tsB bl k v x
variable (oc : Nat → Int) (at' : Nat)
/-- what is known of the numbers it wants, up to place i -/
def eq3 (c : Nat) : Nat → Nat
  | 0 => 1
  | i + 1 => if hsI sp i = true then b3 (eq3 c i) (if c + (eqL i sp).length < at' then (if oc (c + (eqL i sp).length) = 0 then 1 else 0) else 2) else eq3 c i
def tk3 (bl : Nat → Nat → Bool) (k : Nat → Nat) (x : Ast) (c : Nat) : Nat := b3 (eq3 sp oc at' c pl) (hl3 bl k oc at' x (c + (eqL pl sp).length))
end MSEM
theorem eqL_succ (i : Nat) (sp : List Spc) : eqL (i + 1) sp = eqL i sp ++ if hsI sp i = true then [(i + 1, 0, -eqI sp i)] else [] := by
  unfold eqL
  rw [List.range_succ, List.filter_append, List.map_append, List.filter_cons]
  split <;> rfl
section MSEM2
variable {bl : Nat → Nat → Bool} {k : Nat → Nat} {oc : Nat → Int} {at' kn pl : Nat} {v : Nat → Int} {sp : List Spc}
theorem eq3_le : ∀ c i, eq3 sp oc at' c i ≤ 2
  | c, 0 => by
    show 1 ≤ 2
    decide
  | c, i + 1 => by
    rw [eq3]
    split
    · exact b3_le _ _
    · exact eq3_le c i
theorem eq3_ok : ∀ c i, (OcV oc at' v (eqL i sp) c → eq3 sp oc at' c i ≠ 2 → (eq3 sp oc at' c i = 1 ↔ ((List.range i).all fun i => !hsI sp i || decide (v i = eqI sp i)) = true)) ∧ (c + (eqL i sp).length ≤ at' → eq3 sp oc at' c i ≠ 2)
  | c, 0 => ⟨fun _ _ => ⟨fun _ => rfl, fun _ => rfl⟩, fun _ => (by decide : (1 : Nat) ≠ 2)⟩
  | c, i + 1 => by
    have ih := eq3_ok c i
    have le := eq3_le (sp := sp) (oc := oc) (at' := at') c i
    rw [eq3, eqL_succ, List.range_succ, List.all_append]
    by_cases hh : hsI sp i = true
    · rw [if_pos hh, if_pos hh]
      refine ⟨fun ho hn => ?_, fun hc => ?_⟩
      · have h1 := ih.1 ho.l
        have h2 := ho.r 0 _ _ _ rfl
        rw [show c + (eqL i sp).length + 0 = c + (eqL i sp).length from rfl] at h2
        have e : ([i].all fun i => !hsI sp i || decide (v i = eqI sp i)) = decide (v i = eqI sp i) := by
          simp [hh]
        rw [e]
        clear ih ho
        generalize ((List.range i).all fun i => !hsI sp i || decide (v i = eqI sp i)) = s at *
        generalize eq3 sp oc at' c i = p at *
        by_cases hc : c + (eqL i sp).length < at'
        · rw [if_pos hc] at hn ⊢
          have h3 := h2 hc
          rw [h3] at hn ⊢
          have hv : sg3 (vx v (i + 1) - vx v 0 + -eqI sp i) = 0 ↔ v i = eqI sp i := by
            have e1 : vx v (i + 1) = v i := rfl
            have e0 : vx v 0 = 0 := rfl
            rw [e1, e0]
            unfold sg3
            constructor
            · intro z
              split at z
              · exact absurd z (by decide)
              · split at z
                · omega
                · exact absurd z (by decide)
            · intro z
              rw [if_neg (by omega), if_pos (by omega)]
          by_cases q : v i = eqI sp i
          · rw [if_pos (hv.mpr q)] at hn ⊢
            rcases (by omega : p = 0 ∨ p = 1 ∨ p = 2) with rfl | rfl | rfl <;> cases s <;> simp_all [b3]
          · rw [if_neg (fun z => q (hv.mp z))] at hn ⊢
            rcases (by omega : p = 0 ∨ p = 1 ∨ p = 2) with rfl | rfl | rfl <;> cases s <;> simp_all [b3]
        · rw [if_neg hc] at hn ⊢
          rcases (by omega : p = 0 ∨ p = 1 ∨ p = 2) with rfl | rfl | rfl <;> cases s <;> simp_all [b3]
      · rw [List.length_append] at hc
        have hc : c + ((eqL i sp).length + 1) ≤ at' := hc
        have h1 := ih.2 (by omega)
        rw [if_pos (by omega)]
        generalize eq3 sp oc at' c i = p at *
        split <;> rcases (by omega : p = 0 ∨ p = 1) with rfl | rfl <;> decide
    · rw [if_neg hh, if_neg hh, List.append_nil]
      have e : ([i].all fun i => !hsI sp i || decide (v i = eqI sp i)) = true := by
        simp [hh]
      rw [e, Bool.and_true]
      exact ih
theorem tk3_le (x : Ast) (c : Nat) : tk3 pl sp oc at' bl k x c ≤ 2 := b3_le _ _
theorem hl3_okN (x : Ast) (h : x = .nil ∨ tsW kn pl x) (c : Nat) : (OcV oc at' v (atL x) c → hl3 bl k oc at' x c ≠ 2 → (hl3 bl k oc at' x c = 1 ↔ tsB bl k v x = true)) ∧ (c + (atL x).length ≤ at' → hl3 bl k oc at' x c ≠ 2) ∧ hl3 bl k oc at' x c ≤ 2 := by
  rcases h with rfl | h
  · exact ⟨fun _ _ => ⟨fun _ => rfl, fun _ => rfl⟩, fun _ => (by decide : (1 : Nat) ≠ 2), (by decide : (1 : Nat) ≤ 2)⟩
  · exact ⟨(hl3_ok x h c).1, (hl3_ok (v := v) x h c).2, hl3_le x h c⟩
theorem tk3_ok (x : Ast) (h : x = .nil ∨ tsW kn pl x) (c : Nat) : (OcV oc at' v (atM pl sp x) c → tk3 pl sp oc at' bl k x c ≠ 2 → (tk3 pl sp oc at' bl k x c = 1 ↔ tkM pl sp bl k x v = true)) ∧ (c + (atM pl sp x).length ≤ at' → tk3 pl sp oc at' bl k x c ≠ 2) := by
  have h1 := eq3_ok (sp := sp) (oc := oc) (at' := at') (v := v) c pl
  have l1 := eq3_le (sp := sp) (oc := oc) (at' := at') c pl
  have h2 := hl3_okN (bl := bl) (k := k) (oc := oc) (at' := at') (v := v) x h (c + (eqL pl sp).length)
  unfold tk3 atM tkM
  refine ⟨fun ho hn => ?_, fun hc => ?_⟩
  · have g1 := h1.1 ho.l
    have g2 := h2.1 ho.r
    have g3 := h2.2.2
    clear h1 h2 ho
    generalize ((List.range pl).all fun i => !hsI sp i || decide (v i = eqI sp i)) = s at *
    generalize tsB bl k v x = u at *
    generalize eq3 sp oc at' c pl = p at *
    generalize hl3 bl k oc at' x (c + (eqL pl sp).length) = q at *
    rcases (by omega : p = 0 ∨ p = 1 ∨ p = 2) with rfl | rfl | rfl <;> rcases (by omega : q = 0 ∨ q = 1 ∨ q = 2) with rfl | rfl | rfl <;> cases s <;> cases u <;> simp_all [b3]
  · rw [List.length_append] at hc
    have g1 := h1.2 (by omega)
    have g2 := h2.2.1 (by omega)
    have g3 := h2.2.2
    clear h1 h2
    generalize eq3 sp oc at' c pl = p at *
    generalize hl3 bl k oc at' x (c + (eqL pl sp).length) = q at *
    rcases (by omega : p = 0 ∨ p = 1) with rfl | rfl <;> rcases (by omega : q = 0 ∨ q = 1) with rfl | rfl <;> decide
end MSEM2

/-! THE CLASS: code of trees (pure); readings that come to the same -/
theorem ast_ind {P : Ast → Prop} (h0 : ∀ x, (∀ op v w a b c, x ≠ aN op v w a b c) → P x) (h1 : ∀ op v w a b c, P a → P b → P c → P (aN op v w a b c)) : ∀ (k : Nat) (x : Ast), SizeOf.sizeOf x ≤ k → P x
  | 0, x, h => h0 x (fun op v w a b c e => by
    rw [e] at h
    unfold aN at h
    simp at h)
  | k + 1, x, h => by
    by_cases z : ∃ op v w a b c, x = aN op v w a b c
    · obtain ⟨op, v, w, a, b, c, rfl⟩ := z
      have hs : SizeOf.sizeOf a < SizeOf.sizeOf (aN op v w a b c) ∧ SizeOf.sizeOf b < SizeOf.sizeOf (aN op v w a b c) ∧ SizeOf.sizeOf c < SizeOf.sizeOf (aN op v w a b c) := by
        unfold aN
        simp
        omega
      exact h1 op v w a b c (ast_ind h0 h1 k a (by omega)) (ast_ind h0 h1 k b (by omega)) (ast_ind h0 h1 k c (by omega))
    · exact h0 x (fun op v w a b c e => z ⟨op, v, w, a, b, c, e⟩)
def lkO (s : Nat) : Int32 := if s = 39 then 5 else if s = 40 then 6 else if s = 41 then 7 else 8
def cmO (v : Int) : Int32 := if v = 15 then 9 else if v = 17 then 10 else 11
/-- the code of a tree, from the address S on; k nodes begin with it (links: true) -/
def cdB : Ast → Bool → Nat → Nat → Cd
  | .tag op (.nest v (.nest w (.append a (.append b c)))), lk, S, k =>
    if lk = true then cdB a false S 0 ++ (lkO op, 0, 0) :: cdB b true (S + (cdB a false S 0).length + 1) 0
    else if op = 1 then cdB a false S (k + 1) ++ (12, Int32.ofInt v, 0) :: cdB b false (S + (cdB a false S (k + 1)).length + 1) 0
    else if op = 2 then cdB a false S (k + 1) ++ (13, Int32.ofNat (S + (cdB a false S (k + 1)).length + (cdB b false (S + (cdB a false S (k + 1)).length + 1) 0).length + 2), 0) :: (cdB b false (S + (cdB a false S (k + 1)).length + 1) 0 ++ (14, Int32.ofNat (S + (cdB a false S (k + 1)).length + (cdB b false (S + (cdB a false S (k + 1)).length + 1) 0).length + 2 + (cdB c false (S + (cdB a false S (k + 1)).length + (cdB b false (S + (cdB a false S (k + 1)).length + 1) 0).length + 2) 0).length), 0) :: cdB c false (S + (cdB a false S (k + 1)).length + (cdB b false (S + (cdB a false S (k + 1)).length + 1) 0).length + 2) 0)
    else if op = 3 ∨ op = 4 then (if op = 3 then 15 else 16, Int32.ofInt v, k + 1) :: (cdB a false (S + 1) 0 ++ [(17, 0, 0)])
    else if op = 5 then (18, Int32.ofNat (S + (cdB a false (S + 1) 0).length + 2), k + 1) :: (cdB a false (S + 1) 0 ++ (19, Int32.ofNat (S + (cdB a false (S + 1) 0).length + 3 + (cdB b false (S + (cdB a false (S + 1) 0).length + 3) 0).length), 0) :: (12, Int32.ofInt v, 0) :: cdB b false (S + (cdB a false (S + 1) 0).length + 3) 0)
    else if op = 6 ∨ op = 7 then cdB a false S (k + 1) ++ [(if op = 6 then 20 else 21, 0, 0)]
    else if op = 8 then cdB a false S (k + 1) ++ (cdB b false (S + (cdB a false S (k + 1)).length) 0 ++ [(cmO v, 0, 0)])
    else if op = 9 then cdB a false S (k + 1) ++ [(4, Int32.ofInt v, 0)]
    else if op = 10 then cdB a false S (k + w.toNat) ++ cdB b true (S + (cdB a false S (k + w.toNat)).length) 0
    else if op = 11 then [(0, Int32.ofInt v, k + 1)]
    else if op = 12 then [(1, Int32.ofInt v, k + 1)]
    else if op = 16 then cdB a false S (k + 1) ++ [(3, 0, 0)]
    else if w = 0 then [(23, 0, k + 1)]
    else cdB a false S (k + 1) ++ (if w = 1 then [] else cdB b false (S + (cdB a false S (k + 1)).length) 0 ++ (if w = 2 then [] else cdB c false (S + (cdB a false S (k + 1)).length + (cdB b false (S + (cdB a false S (k + 1)).length) 0).length) 0)) ++ [if op = 13 then (2, Int32.ofInt v, 0) else if op = 14 then (22, Int32.ofInt v, 0) else (24, 0, 0)]
  | _, lk, _, k => if lk = true then [] else [(99, 0, k)]
theorem bmA_app : ∀ (L M : Cd), bmA L.length (L ++ M) = L ++ bmA 0 M
  | [], M => rfl
  | x :: L, M => by
    have := bmA_app L M
    unfold bmA at this ⊢
    rw [List.length_cons, List.cons_append, List.modify_succ_cons, this]
    rfl
theorem bm_app {A M : Cd} (h : A ≠ []) : bmA 0 (A ++ M) = bmA 0 A ++ M := by
  cases A with
  | nil => exact absurd rfl h
  | cons x A => rfl
theorem agA_at (a : Int32) (q : Int32 × Int32 × Nat) (M : Cd) : ∀ (A : Cd), agA A.length a (A ++ q :: M) = A ++ (q.1, a, q.2.2) :: M
  | [] => rfl
  | x :: A => by
    have := agA_at a q M A
    unfold agA at this ⊢
    rw [List.length_cons, List.cons_append, List.modify_succ_cons, this]
    rfl
theorem bmA_len (f : Nat) (L : Cd) : (bmA f L).length = L.length := List.length_modify ..
theorem cd_no {x : Ast} (h : ∀ op v w a b c, x ≠ aN op v w a b c) (lk : Bool) (S k : Nat) : cdB x lk S k = if lk = true then [] else [(99, 0, k)] := by
  unfold cdB
  split
  · rename_i op v w a b c
    exact absurd rfl (h op v w a b c)
  · rfl
theorem ap_ne {A M : Cd} (h : A ≠ []) : A ++ M ≠ [] := fun z => h (List.append_eq_nil_iff.mp z).1
/-- one node more begins with it -/
theorem cd_bm (x : Ast) : ∀ S k, cdB x false S k ≠ [] ∧ bmA 0 (cdB x false S k) = cdB x false S (k + 1) := by
  refine ast_ind (P := fun x => ∀ S k, cdB x false S k ≠ [] ∧ bmA 0 (cdB x false S k) = cdB x false S (k + 1)) (fun x h S k => ?_) (fun op v w a b c ha hb hc S k => ?_) _ x (Nat.le_refl _)
  · rw [cd_no h, cd_no h]
    exact ⟨by simp, rfl⟩
  · have el : ∀ S k, (cdB a false S (k + 1)).length = (cdB a false S k).length := fun S k => by
      rw [← (ha S k).2, bmA_len]
    have en : ∀ S k j, (cdB a false S (k + j)).length = (cdB a false S k).length := fun S k j => by
      induction j with
      | zero => rfl
      | succ j ih => rw [← Nat.add_assoc, el, ih]
    show cdB (aN op v w a b c) false S k ≠ [] ∧ bmA 0 (cdB (aN op v w a b c) false S k) = cdB (aN op v w a b c) false S (k + 1)
    unfold aN cdB
    simp only [Bool.false_eq_true, if_false]
    have h1 := ha S (k + 1)
    by_cases z1 : op = 1
    · simp only [if_pos z1]
      exact ⟨ap_ne h1.1, by rw [bm_app h1.1, h1.2, el S (k + 1)]⟩
    simp only [if_neg z1]
    by_cases z2 : op = 2
    · simp only [if_pos z2]
      exact ⟨ap_ne h1.1, by rw [bm_app h1.1, h1.2, el S (k + 1)]⟩
    simp only [if_neg z2]
    by_cases z3 : op = 3 ∨ op = 4
    · simp only [if_pos z3]
      exact ⟨by simp, rfl⟩
    simp only [if_neg z3]
    by_cases z5 : op = 5
    · simp only [if_pos z5]
      exact ⟨by simp, rfl⟩
    simp only [if_neg z5]
    by_cases z6 : op = 6 ∨ op = 7
    · simp only [if_pos z6]
      exact ⟨ap_ne h1.1, by rw [bm_app h1.1, h1.2]⟩
    simp only [if_neg z6]
    by_cases z8 : op = 8
    · simp only [if_pos z8]
      exact ⟨ap_ne h1.1, by rw [bm_app h1.1, h1.2, el S (k + 1)]⟩
    simp only [if_neg z8]
    by_cases z9 : op = 9
    · simp only [if_pos z9]
      exact ⟨ap_ne h1.1, by rw [bm_app h1.1, h1.2]⟩
    simp only [if_neg z9]
    by_cases z10 : op = 10
    · simp only [if_pos z10]
      have h2 := ha S (k + w.toNat)
      refine ⟨ap_ne h2.1, ?_⟩
      rw [bm_app h2.1, h2.2, show k + 1 + w.toNat = k + w.toNat + 1 from by omega, el S (k + w.toNat)]
    simp only [if_neg z10]
    by_cases z11 : op = 11
    · simp only [if_pos z11]
      exact ⟨by simp, rfl⟩
    simp only [if_neg z11]
    by_cases z12 : op = 12
    · simp only [if_pos z12]
      exact ⟨by simp, rfl⟩
    simp only [if_neg z12]
    by_cases z16 : op = 16
    · simp only [if_pos z16]
      exact ⟨ap_ne h1.1, by rw [bm_app h1.1, h1.2]⟩
    simp only [if_neg z16]
    by_cases z0 : w = 0
    · simp only [if_pos z0]
      exact ⟨by simp, rfl⟩
    simp only [if_neg z0]
    refine ⟨ap_ne (ap_ne h1.1), ?_⟩
    rw [bm_app (ap_ne h1.1), bm_app h1.1, h1.2, el S (k + 1)]
theorem cd_bmN (x : Ast) (S k : Nat) : (cdB x false S (k + 1)).length = (cdB x false S k).length := by
  rw [← (cd_bm x S k).2, bmA_len]
/-- what is read, from R on -/
def gR (f : Pf) (S : Nat) (vs : List (List Int32)) (R : RR) : RR := bdR R fun p c es L b => match f vs p c with
  | .inl q => .inl q
  | .inr (p', c', es', x) => .inr (p', c', es ++ es', L ++ cdB x false (S + L.length) b, 0)
/-- they come to the same -/
def RE : RR → RR → Prop
  | .inl q, .inl q' => q = q'
  | .inr (p, c, es, L, b), .inr (p', c', es', L', b') => p = p' ∧ c = c' ∧ (∀ e, e ∈ es ↔ e ∈ es') ∧ (es = [] → L = L' ∧ b = b')
  | _, _ => False
theorem lsE_set {es es' : Evs} (h : ∀ e, e ∈ es ↔ e ∈ es') : lsE es = lsE es' := by
  have imp : ∀ es es' : Evs, (∀ e, e ∈ es ↔ e ∈ es') → ∀ v, lsE es = some v → lsE es' = some v := fun es es' h v hv => by
    have m1 := lsE_mem es v hv
    obtain ⟨u, u1, u2⟩ := lsE_le _ es' rfl v ((h v).mp m1)
    have m2 := lsE_mem es' u u1
    obtain ⟨v', v1, v2⟩ := lsE_le _ es rfl u ((h u).mpr m2)
    rw [hv] at v1
    have v1 := Option.some.inj v1
    rw [← v1] at v2
    rw [u1]
    have e1 : u.1 = v.1 := by omega
    have e2 : u.2 = v.2 := by omega
    rw [Prod.ext e1 e2]
  cases h1 : lsE es with
  | some v => exact (imp es es' h v h1).symm
  | none =>
    cases h2 : lsE es' with
    | none => rfl
    | some v =>
      have := imp es' es (fun e => (h e).symm) v h2
      rw [h1] at this
      cases this
theorem nil_set {es es' : Evs} (h : ∀ e, e ∈ es ↔ e ∈ es') (z : es' = []) : es = [] := by
  rw [z] at h
  exact List.eq_nil_iff_forall_not_mem.mpr (fun e q => by cases (h e).mp q)
theorem RE.refl (R : RR) : RE R R := by
  rcases R with q | ⟨p, c, es, L, b⟩
  · exact rfl
  · exact ⟨rfl, rfl, fun _ => Iff.rfl, fun _ => ⟨rfl, rfl⟩⟩
/-- so many nodes at most, room for so much code -/
def GD (q k : Nat) (R : RR) : Prop := ∀ p c es L b, R = .inr (p, c, es, L, b) → c ≤ p + q ∧ (es = [] → L.length + k ≤ 3 * c)
/-- R0 came before -/
def LeR (R0 R : RR) : Prop := ∀ p c L b, R = .inr (p, c, [], L, b) → ∃ p0 c0 L0 b0, R0 = .inr (p0, c0, [], L0, b0) ∧ L0.length ≤ L.length
def lnR : RR → Nat
  | .inl _ => 0
  | .inr (_, _, _, L, _) => L.length
theorem RE.gd {R R' : RR} {q k : Nat} (h : RE R R') (g : GD q k R) : GD q k R' := fun p c es L b e => by
  rw [e] at h
  rcases R with q | ⟨p', c', es', L', b'⟩
  · cases h
  · obtain ⟨h1, h2, h3, h4⟩ := h
    obtain ⟨g1, g2⟩ := g p' c' es' L' b' rfl
    refine ⟨by omega, fun z => ?_⟩
    have z' := nil_set h3 z
    have := g2 z'
    rw [← (h4 z').1]
    omega
theorem RE.le {R R' R0 : RR} (h : RE R R') (g : LeR R0 R) : LeR R0 R' := fun p c L b e => by
  rw [e] at h
  rcases R with q | ⟨p', c', es', L', b'⟩
  · cases h
  · obtain ⟨h1, h2, h3, h4⟩ := h
    have z' := nil_set h3 rfl
    subst z'
    have := g p' c' L' b' rfl
    rw [← (h4 rfl).1]
    exact this
section RES
variable {t : Nat → Int32} {n N : Nat} {B : Nat × Nat × Nat × Nat × Nat} {C : Nat × Nat × Nat × Nat} {W : Wld} {w : Int} {S : Nat} {σ0 : Sg} {vs : List (List Int32)} {R R' : RR} {σ : Sg}
theorem CSt.re (h : CSt t n N B C W w S σ0 vs R σ) (e : RE R R') : CSt t n N B C W w S σ0 vs R' σ := by
  rcases R with q | ⟨p, c, es, L, b⟩
  · rcases R' with q' | ⟨p', c', es', L', b'⟩
    · have e : q = q' := e
      rw [← e]
      exact h
    · cases e
  · rcases R' with q' | ⟨p', c', es', L', b'⟩
    · cases e
    · obtain ⟨rfl, rfl, h3, h4⟩ := e
      obtain ⟨cb, h5, ⟨x, x1, x2, x3⟩, hv, ⟨c1, c2, c3⟩, ru, hev⟩ := h
      refine ⟨cb, h5, ⟨x, x1, x2, fun z => ?_⟩, hv, ⟨c1, c2, fun z => ?_⟩, ?_, fun e he => hev e ((h3 e).mpr he)⟩
      · have z' := nil_set h3 z
        rw [← (h4 z').1, ← (h4 z').2]
        exact x3 z'
      · obtain ⟨e, e1, e2⟩ := c3 z
        exact ⟨e, (h3 e).mp e1, e2⟩
      · unfold RuC at ru ⊢
        rw [← lsE_set h3]
        exact ru
end RES

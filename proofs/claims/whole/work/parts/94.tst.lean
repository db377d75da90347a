/-! TESTS, AS THE DOCUMENT HAS THEM -/
def spE (vs : List (List Int32)) (nm : List Int32) (w : Nat) : Evs := if lstI vs nm = none then [(w, 3)] else []
def spV (vs : List (List Int32)) (nm : List Int32) : Int := match lstI vs nm with
  | some k => k
  | none => 0
/-- one comparison more -/
def ctE (k w : Nat) : Evs := if Int32.ofNat k = 6 then [(w, 7)] else []
section TST
variable (t : Nat → Int32) (n : Nat)
/-- [+ NUMBER | - NUMBER] -/
def pBh (p : Nat) : Nat ⊕ (Int × Nat) :=
  if tyS t n p = 9 ∨ tyS t n p = 10 then
    (if tyS t n (nxS t n p) = 3 then .inr (if tyS t n p = 10 then -(vaS t n (nxS t n p)).toInt else (vaS t n (nxS t n p)).toInt, nxS t n (nxS t n p)) else .inl (nxS t n p))
  else .inr (0, p)
def pC2 (vs : List (List Int32)) (p1 k w : Nat) (es : Evs) (pa mo : Int) : PR :=
  if tyS t n p1 = 15 ∨ tyS t n p1 = 17 ∨ tyS t n p1 = 16 then
    (if tyS t n (nxS t n p1) = 2 then
      (match pBh t n (nxS t n (nxS t n p1)) with
      | .inl q => .inl q
      | .inr (b, p2) => .inr (p2, k + 1, es ++ ctE k w ++ spE vs (nmS t n (nxS t n p1)) (nxS t n p1), aN 8 (tyS t n p1) pa (.nest (spV vs (nmS t n (nxS t n p1))) (.nest (mo - b) .nil)) .nil .nil))
    else
      (match pSg t n (nxS t n p1) with
      | .inl q => .inl q
      | .inr (b, p2) => .inr (p2, k + 1, es ++ ctE k w, aN 8 (tyS t n p1) pa (.nest (-1) (.nest (mo - b) .nil)) .nil .nil)))
  else .inl p1
variable (env : Env)
def pCm : Pf := fun vs p k =>
  if tyS t n p = 2 then
    (if tyS t n (nxS t n p) = 33 then
      (if tyS t n (nxS t n (nxS t n p)) = 2 then .inr (nxS t n (nxS t n (nxS t n p)), k + 1, spE vs (nmS t n p) p ++ ctE k p ++ (if env.1 (nmS t n (nxS t n (nxS t n p))) = none then [(nxS t n (nxS t n p), 3)] else []), aN 9 (idx (env.1 (nmS t n (nxS t n (nxS t n p))))) (spV vs (nmS t n p)) .nil .nil .nil)
      else .inl (nxS t n (nxS t n p)))
    else
      (match pBh t n (nxS t n p) with
      | .inl q => .inl q
      | .inr (a, p1) => pC2 t n vs p1 k p (spE vs (nmS t n p) p) (spV vs (nmS t n p)) a))
  else
    (match pSg t n p with
    | .inl q => .inl q
    | .inr (a, p1) => pC2 t n vs p1 k p [] (-1) a)
def pLo (sub : Pf) (w op : Nat) (vs : List (List Int32)) : Nat → Nat → Nat → Evs → Ast → PR
  | 0, p, _, _, _ => .inl p
  | f + 1, p, k, es, x => if tyS t n p = w then
      (match sub vs (nxS t n p) k with
      | .inl q => .inl q
      | .inr (p', k', es', y) => pLo sub w op vs f p' k' (es ++ es') (aN op 0 0 x y .nil))
    else .inr (p, k, es, x)
def pLs (sub : Pf) (w op : Nat) : Pf := fun vs p k => bnd (sub vs p k) fun p1 k1 es x => pLo t n sub w op vs (n + 1 - p1) p1 k1 es x
/-- conjunctions joined by or -/
def pTt (s : Pf) : Pf := pLs t n (pLs t n s 30 21) 31 20
def pTs : Nat → Pf
  | 0 => fun _ p _ => .inl p
  | r + 1 => fun vs p k =>
    if tyS t n p = 32 then bnd (pTs r vs (nxS t n p) k) fun p1 k1 es a => .inr (p1, k1, es, aN 22 0 0 a .nil .nil)
    else if tyS t n p = 4 then bnd (pTt t n (pTs r) vs (nxS t n p) k) fun p1 k1 es a => if tyS t n p1 = 5 then .inr (nxS t n p1, k1, es, a) else .inl p1
    else pCm t n env vs p k
end TST
/-- a comparison's numbers -/
def leafC (σ : Sg) (x : Nat) (v w : Int) (a : Ast) : Prop := σ.i x 3 = chV v.toNat ∧ σ.i x 9 = Int32.ofInt w ∧ ∃ pb mo, a = .nest pb (.nest mo .nil) ∧ σ.i x 10 = Int32.ofInt pb ∧ σ.l x 11 = Int64.ofInt mo
/-- r is that test, all its Nodes in A -/
def TsN (σ : Sg) (A : Nat → Prop) : Ast → Rf → Prop
  | .nil, r => r = Rf.nul
  | .tag op (.nest v (.nest w (.append a (.append b .nil)))), r => ∃ x, r = Rf.ptr x ∧ A x ∧ σ.sh[x]? = some (Sh.obj 21) ∧ σ.i x 0 = Int32.ofNat op ∧ ((op = 8 ∧ leafC σ x v w a ∧ σ.r x 5 = Rf.nul ∧ σ.r x 6 = Rf.nul) ∨ (op = 9 ∧ σ.i x 2 = Int32.ofInt w ∧ σ.i x 1 = Int32.ofInt v ∧ σ.r x 5 = Rf.nul ∧ σ.r x 6 = Rf.nul) ∨ (20 ≤ op ∧ TsN σ A a (σ.r x 5) ∧ TsN σ A b (σ.r x 6)))
  | _, _ => False
theorem TsN_aN (σ : Sg) (A : Nat → Prop) (op : Nat) (v w : Int) (a b : Ast) (r : Rf) : TsN σ A (aN op v w a b .nil) r = ∃ x, r = Rf.ptr x ∧ A x ∧ σ.sh[x]? = some (Sh.obj 21) ∧ σ.i x 0 = Int32.ofNat op ∧ ((op = 8 ∧ leafC σ x v w a ∧ σ.r x 5 = Rf.nul ∧ σ.r x 6 = Rf.nul) ∨ (op = 9 ∧ σ.i x 2 = Int32.ofInt w ∧ σ.i x 1 = Int32.ofInt v ∧ σ.r x 5 = Rf.nul ∧ σ.r x 6 = Rf.nul) ∨ (20 ≤ op ∧ TsN σ A a (σ.r x 5) ∧ TsN σ A b (σ.r x 6))) := rfl
theorem TsN.mono {σ τ : Sg} {A A' : Nat → Prop} (hA : ∀ x, A x → σ.sh[x]? = some (Sh.obj 21) → A' x ∧ τ.sh[x]? = some (Sh.obj 21) ∧ τ.i x = σ.i x ∧ τ.l x = σ.l x ∧ τ.r x = σ.r x) : ∀ (x : Ast) (r : Rf), TsN σ A x r → TsN τ A' x r
  | .nil, r, h => h
  | .tag op (.nest v (.nest w (.append a (.append b .nil)))), r, h => by
    obtain ⟨x, h1, h2, h3, h4, h5⟩ := h
    obtain ⟨q1, q2, q3, q4, q5⟩ := hA x h2 h3
    refine ⟨x, h1, q1, q2, by rw [q3]; exact h4, ?_⟩
    rcases h5 with ⟨g1, g2, g3⟩ | ⟨g1, g2⟩ | ⟨g1, g2, g3⟩
    · refine Or.inl ⟨g1, ?_, by rw [q5]; exact g3⟩
      unfold leafC at g2 ⊢
      rw [q3, q4]
      exact g2
    · exact Or.inr (Or.inl ⟨g1, by rw [q3, q5]; exact g2⟩)
    · refine Or.inr (Or.inr ⟨g1, ?_, ?_⟩)
      · rw [q5]
        exact TsN.mono hA a _ g2
      · rw [q5]
        exact TsN.mono hA b _ g3
  | .line, r, h => h.elim
  | .align _, r, h => h.elim
  | .text _, r, h => h.elim
  | .nest _ _, r, h => h.elim
  | .append _ _, r, h => h.elim
  | .group _ _, r, h => h.elim
  | .tag _ .nil, r, h => h.elim
  | .tag _ .line, r, h => h.elim
  | .tag _ (.align _), r, h => h.elim
  | .tag _ (.text _), r, h => h.elim
  | .tag _ (.append _ _), r, h => h.elim
  | .tag _ (.group _ _), r, h => h.elim
  | .tag _ (.tag _ _), r, h => h.elim
  | .tag _ (.nest _ .nil), r, h => h.elim
  | .tag _ (.nest _ .line), r, h => h.elim
  | .tag _ (.nest _ (.align _)), r, h => h.elim
  | .tag _ (.nest _ (.text _)), r, h => h.elim
  | .tag _ (.nest _ (.append _ _)), r, h => h.elim
  | .tag _ (.nest _ (.group _ _)), r, h => h.elim
  | .tag _ (.nest _ (.tag _ _)), r, h => h.elim
  | .tag _ (.nest _ (.nest _ .nil)), r, h => h.elim
  | .tag _ (.nest _ (.nest _ .line)), r, h => h.elim
  | .tag _ (.nest _ (.nest _ (.align _))), r, h => h.elim
  | .tag _ (.nest _ (.nest _ (.text _))), r, h => h.elim
  | .tag _ (.nest _ (.nest _ (.nest _ _))), r, h => h.elim
  | .tag _ (.nest _ (.nest _ (.group _ _))), r, h => h.elim
  | .tag _ (.nest _ (.nest _ (.tag _ _))), r, h => h.elim
  | .tag _ (.nest _ (.nest _ (.append _ .nil))), r, h => h.elim
  | .tag _ (.nest _ (.nest _ (.append _ .line))), r, h => h.elim
  | .tag _ (.nest _ (.nest _ (.append _ (.align _)))), r, h => h.elim
  | .tag _ (.nest _ (.nest _ (.append _ (.text _)))), r, h => h.elim
  | .tag _ (.nest _ (.nest _ (.append _ (.nest _ _)))), r, h => h.elim
  | .tag _ (.nest _ (.nest _ (.append _ (.group _ _)))), r, h => h.elim
  | .tag _ (.nest _ (.nest _ (.append _ (.tag _ _)))), r, h => h.elim
  | .tag _ (.nest _ (.nest _ (.append _ (.append _ .line)))), r, h => h.elim
  | .tag _ (.nest _ (.nest _ (.append _ (.append _ (.align _))))), r, h => h.elim
  | .tag _ (.nest _ (.nest _ (.append _ (.append _ (.text _))))), r, h => h.elim
  | .tag _ (.nest _ (.nest _ (.append _ (.append _ (.nest _ _))))), r, h => h.elim
  | .tag _ (.nest _ (.nest _ (.append _ (.append _ (.append _ _))))), r, h => h.elim
  | .tag _ (.nest _ (.nest _ (.append _ (.append _ (.group _ _))))), r, h => h.elim
  | .tag _ (.nest _ (.nest _ (.append _ (.append _ (.tag _ _))))), r, h => h.elim
theorem TsN.fr {t : Nat → Int32} {n N nv : Nat} {env : Env} {B : Int32 × Int32 × Rf} {σ τ : Sg} {p c o : Nat} {vs : List (Nat × Nat)} {es : Evs} {m : Nat} {lst lst' : List Nat} {cap cap' u a b : Nat} {x : Ast} {r : Rf} {W : Nat → Prop} (T : TsN σ (Rg lst a b) x r) (S : RS t n N env B σ p c o vs es m lst cap u) (G : RF N nv σ τ lst cap lst' cap' W) (hW : ∀ i, a ≤ i → i < b → ¬ W i) : TsN τ (Rg lst' a b) x r := by
  refine T.mono (fun y hy hs => ?_)
  obtain ⟨i, i1, i2, i3⟩ := hy
  obtain ⟨g1, g2, g3, g4⟩ := nd_keep S G i3 (hW i i1 i2)
  exact ⟨⟨i, i1, i2, G.pre i y i3⟩, g1, g2, g3, g4⟩
theorem TsN.wk {σ : Sg} {lst : List Nat} {a b a' b' : Nat} {x : Ast} {r : Rf} (T : TsN σ (Rg lst a b) x r) (h1 : a' ≤ a) (h2 : b ≤ b') : TsN σ (Rg lst a' b') x r := by
  refine T.mono (fun y hy hs => ⟨?_, hs, rfl, rfl, rfl⟩)
  obtain ⟨i, i1, i2, i3⟩ := hy
  exact ⟨i, by omega, by omega, i3⟩
/-- numbers in a text are none below 0 -/
theorem skD_rng (t : Nat → Int32) (n : Nat) : ∀ m a (v : Int64), 0 ≤ v.toInt → v.toInt ≤ 1099511627776 → 0 ≤ (skD t n m a v).2.toInt ∧ (skD t n m a v).2.toInt ≤ 1099511627776
  | 0, a, v, h0, h1 => ⟨h0, h1⟩
  | m + 1, a, v, h0, h1 => by
    unfold skD
    split
    · rename_i hd
      obtain ⟨-, d1, d2⟩ := hd
      rw [Int32.le_iff_toInt_le] at d1 d2
      have d1 : (48 : Int) ≤ (t a).toInt := d1
      have d2 : (t a).toInt ≤ (57 : Int) := d2
      have e1 : ((10 : Int64) * v).toInt = 10 * v.toInt := by
        rw [Int64.toInt_mul]
        exact Int.bmod_eq_of_le (by show _ ≤ (10 : Int) * _; omega) (by show (10 : Int) * _ < _; omega)
      have e2 : ((10 : Int64) * v + Int32.toInt64 (t a)).toInt = 10 * v.toInt + (t a).toInt := by
        rw [Int64.toInt_add, e1, Int32.toInt_toInt64]
        exact Int.bmod_eq_of_le (by omega) (by omega)
      have e3 : ((10 : Int64) * v + Int32.toInt64 (t a) - (48 : Int64)).toInt = 10 * v.toInt + (t a).toInt - 48 := by
        rw [Int64.toInt_sub, e2]
        exact Int.bmod_eq_of_le (by show _ ≤ _ - (48 : Int); omega) (by show _ - (48 : Int) < _; omega)
      refine skD_rng t n m (a + 1) _ ?_ ?_
      · split
        · decide
        · rw [e3]
          omega
      · split
        · decide
        · rename_i hx
          rw [Int64.lt_iff_toInt_lt] at hx
          have hx : ¬ (1099511627776 : Int) < _ := hx
          omega
    · exact ⟨h0, h1⟩
theorem va_rng {t : Nat → Int32} {n p : Nat} (h : tyS t n p = 3) : 0 ≤ (vaS t n p).toInt := by
  have hs : soS t n p = 3 := by
    rcases ty_or t n p with q | q | q | q | ⟨_, _, _, q⟩ | ⟨_, _, _, _, q⟩
    · omega
    · omega
    · omega
    · exact q.2.1
    · rcases q with q | ⟨q, q1, q2, q3⟩
      · omega
      · have := (mkL2_c q q1).2.1
        omega
    · rcases q with q | ⟨q, q1, q2, q3⟩
      · omega
      · have := (wdL_c q q1).2.1
        omega
  rcases so_or t n p with q | q | q | q | q | q
  · rw [q.1] at hs
    exact absurd hs (by decide)
  · rw [q] at hs
    exact absurd hs (by decide)
  · rw [q.1] at hs
    exact absurd hs (by decide)
  · obtain ⟨q1, q2, q3, q4⟩ := q
    unfold vaS
    rw [if_pos q4]
    unfold soS at hs
    rw [if_pos q2, if_neg q3, if_pos q4] at hs
    obtain ⟨r1, r2⟩ := skD_rng t n (n - p) p 0 (by decide) (by decide)
    split at hs
    · rename_i hc
      have hle : (skD t n (n - p) p 0).2.toInt ≤ 2147483647 := by
        unfold lg_cmp at hc
        refine Int.not_lt.mp fun z => ?_
        rw [if_pos (show (2147483647 : Int64) < _ by rw [Int64.lt_iff_toInt_lt]; exact z)] at hc
        exact absurd hc (by decide)
      rw [Int64.toInt_toInt32]
      rw [Int.bmod_eq_of_le (by omega) (by omega)]
      exact r1
    · exact absurd hs (by decide)
  · rw [q.1] at hs
    exact absurd hs (by decide)
  · rw [q.1] at hs
    exact absurd hs (by decide)

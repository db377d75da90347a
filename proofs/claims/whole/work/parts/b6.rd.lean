/-! THE CLASS: reading; the state, small steps -/
/-- code: what, with, how many nodes begin there -/
abbrev Cd : Type := List (Int32 × Int32 × Nat)
/-- what can't stand there; or: place, nodes, rules broken, code so far, nodes that begin at its end -/
abbrev RR : Type := Nat ⊕ (Nat × Nat × Evs × Cd × Nat)
def bdR (R : RR) (f : Nat → Nat → Evs → Cd → Nat → RR) : RR := match R with
  | .inl q => .inl q
  | .inr (p, c, es, L, b) => f p c es L b
section PUREOPS
variable (t : Nat → Int32) (n : Nat)
def tkR (w : Nat) (R : RR) : RR := bdR R fun p c es L b => if tyS t n p = w then .inr (nxS t n p, c, es, L, b) else .inl p
def nvR (R : RR) : RR := bdR R fun p _ _ _ _ => .inl p
def evR (e : Evs) (R : RR) : RR := bdR R fun p c es L b => .inr (p, c, es ++ e, L, b)
def anR (R : RR) : RR := bdR R fun p c es L b => .inr (p, c + 1, es ++ cnE c p, L, b + 1)
def bmA (f : Nat) (L : Cd) : Cd := L.modify f fun q => (q.1, q.2.1, q.2.2 + 1)
def an2 (f : Nat) (R : RR) : RR := bdR R fun p c es L b => .inr (p, c + 1, es ++ cnE c p, bmA f L, b)
def emR (o a : Int32) (R : RR) : RR := bdR R fun p c es L b => .inr (p, c, es, L ++ [(o, a, b)], 0)
def agA (f : Nat) (a : Int32) (L : Cd) : Cd := L.modify f fun q => (q.1, a, q.2.2)
def amR (S f : Nat) (R : RR) : RR := bdR R fun p c es L b => .inr (p, c, es, agA f (Int32.ofNat (S + L.length)) L, b)
/-- the sign that stands there; the end where none does -/
def sgT : RR → Nat
  | .inl _ => 0
  | .inr (p, _) => tyS t n p
end PUREOPS
/-- rules broken, in the heap -/
def RuC (es : Evs) (σ : Sg) : Prop := match lsE es with
  | none => σ.i 40 5 = -1 ∧ σ.i 40 6 = 0
  | some w => σ.i 40 5 = Int32.ofNat w.1 ∧ σ.i 40 6 = Int32.ofNat w.2
/-- the rows of code -/
def CoA (σ : Sg) (cap c0 c1 c2 : Nat) : Prop := (σ.r 24 0 = Rf.ptr c0 ∧ σ.sh[c0]? = some (Sh.arr 0 cap)) ∧ (σ.r 24 1 = Rf.ptr c1 ∧ σ.sh[c1]? = some (Sh.arr 0 cap)) ∧ (σ.r 24 2 = Rf.ptr c2 ∧ σ.sh[c2]? = some (Sh.arr 0 cap)) ∧ (c0 ≠ c1 ∧ c0 ≠ c2 ∧ c1 ≠ c2) ∧ (c0 = 25 ∨ 102 ≤ c0) ∧ (c1 = 26 ∨ 102 ≤ c1) ∧ (c2 = 27 ∨ 102 ≤ c2) ∧ cap ≤ 2000000
/-- names told, from a place of the rows on -/
def NmS (ns : List (List Int32)) (o : Nat) (σ : Sg) : Prop := ∀ (k : Nat) nm, ns[k]? = some nm → σ.l 29 (o + k) = nmH nm ∧ σ.l 30 (o + k) = nmT nm ∧ (nm.length ≤ 16 ∧ ∀ c ∈ nm, nmC c)
/-- what reading a body may write: S its start -/
def rdI (S c0 c1 c2 a k : Nat) : Prop := (a = 40 ∧ ((3 ≤ k ∧ k ≤ 6) ∨ k = 9)) ∨ (a = 24 ∧ k = 3) ∨ (a = 28 ∧ k = 3) ∨ ((a = c0 ∨ a = c1 ∨ a = c2) ∧ S ≤ k ∧ k ≤ S + 901)
def RdF (S c0 c1 c2 : Nat) (σ τ : Sg) : Prop := τ.sh = σ.sh ∧ τ.r = σ.r ∧ (∀ a k, ¬ rdI S c0 c1 c2 a k → τ.i a k = σ.i a k) ∧ ∀ a k, ¬ ((a = 29 ∨ a = 30) ∧ 56 ≤ k) → τ.l a k = σ.l a k
section RDF
variable {S c0 c1 c2 : Nat} {σ τ υ : Sg}
theorem RdF.refl (S c0 c1 c2 : Nat) (σ : Sg) : RdF S c0 c1 c2 σ σ := ⟨rfl, rfl, fun _ _ _ => rfl, fun _ _ _ => rfl⟩
theorem RdF.tr (h : RdF S c0 c1 c2 σ τ) (g : RdF S c0 c1 c2 τ υ) : RdF S c0 c1 c2 σ υ := ⟨g.1.trans h.1, g.2.1.trans h.2.1, fun a k q => (g.2.2.1 a k q).trans (h.2.2.1 a k q), fun a k q => (g.2.2.2 a k q).trans (h.2.2.2 a k q)⟩
theorem RdF.wi {a k : Nat} {v : Int32} (h : rdI S c0 c1 c2 a k) : RdF S c0 c1 c2 σ (σ.wi a k v) := ⟨rfl, rfl, fun x y q => wi_ne (fun z => q (by rw [z.1, z.2]; exact h)), fun _ _ _ => rfl⟩
end RDF
/-- code, in the heap -/
def CdS (S c0 c1 c2 : Nat) (L : Cd) (b : Nat) (σ : Sg) : Prop := (∀ (j : Nat) q, L[j]? = some q → σ.i c0 (S + j) = q.1 ∧ σ.i c1 (S + j) = q.2.1 ∧ σ.i c2 (S + j) = Int32.ofNat q.2.2) ∧ σ.i c2 (S + L.length) = Int32.ofNat b
/-- the fixed things of reading a body: signs, rows of code, names, the own call -/
abbrev Rx : Type := (Nat → Int32) × Nat × Nat × (Nat × Nat × Nat × Nat × Nat) × (Nat × Nat × Nat × Nat) × Wld × Int × Nat
section CST
variable (t : Nat → Int32) (n N : Nat) (B : Nat × Nat × Nat × Nat × Nat) (C : Nat × Nat × Nat × Nat) (W : Wld) (w : Int) (S : Nat) (σ0 : Sg)
/-- what always holds while a body is read -/
def CBs (σ : Sg) : Prop := FX ΦC σ.sh σ.r ∧ SgA σ B.1 B.2.1 B.2.2.1 B.2.2.2.1 B.2.2.2.2 ∧ SgS t n N σ B.2.1 B.2.2.1 B.2.2.2.1 B.2.2.2.2 ∧ (n ≤ 8192 ∧ N + 1 ≤ B.1) ∧ CoA σ C.1 C.2.1 C.2.2.1 C.2.2.2 ∧ (σ.i 24 4 = Int32.ofNat (S + 901) ∧ S + 901 < C.1) ∧ (B.2.1 ≠ C.2.1 ∧ B.2.1 ≠ C.2.2.1 ∧ B.2.1 ≠ C.2.2.2 ∧ B.2.2.1 ≠ C.2.1 ∧ B.2.2.1 ≠ C.2.2.1 ∧ B.2.2.1 ≠ C.2.2.2) ∧
  (σ.i 28 0 = Int32.ofNat W.1.length ∧ W.1.length ≤ 24 ∧ NmS (W.1.map (·.1)) 0 σ ∧ (W.1.map (·.1)).Nodup ∧ ∀ (k : Nat) x, W.1[k]? = some x → σ.i 3 k = if x.2.1 = true then 1 else 0) ∧
  (σ.i 28 1 = Int32.ofNat W.2.1.length ∧ W.2.1.length ≤ 24 ∧ NmS (W.2.1.map (·.1)) 24 σ ∧ (W.2.1.map (·.1)).Nodup ∧ ∀ (k : Nat) x, W.2.1[k]? = some x → σ.i 31 k = Int32.ofNat x.2.1 ∧ (1 ≤ x.2.1 ∧ x.2.1 ≤ 3)) ∧
  (σ.i 28 2 = Int32.ofNat W.2.2.1.length ∧ W.2.2.1.length ≤ 8 ∧ NmS W.2.2.1 48 σ ∧ W.2.2.1.Nodup) ∧
  (σ.i 40 7 = (if w = -1 then 0 else 1) ∧ σ.i 40 8 = Int32.ofInt (if w < 0 then -1 else w) ∧ (-2 ≤ w ∧ w < W.2.1.length)) ∧ RdF S C.2.1 C.2.2.1 C.2.2.2 σ0 σ
def CSt (vs : List (List Int32)) : RR → Sg → Prop
  | .inl q, σ => CBs t n N B C W w S σ0 σ ∧ (σ.i 40 3 = Int32.ofNat N ∧ σ.i 40 4 = Int32.ofNat q ∧ q ≤ n) ∧ (∃ x, x ≤ 901 ∧ σ.i 24 3 = Int32.ofNat (S + x)) ∧ σ.i 28 3 = Int32.ofNat vs.length ∧ vs.length ≤ 16
  | .inr (p, c, es, L, b), σ => CBs t n N B C W w S σ0 σ ∧ ((∃ i, i ≤ N ∧ σ.i 40 3 = Int32.ofNat i ∧ sgP t n i = p) ∧ σ.i 40 4 = -1) ∧ (∃ x, x ≤ 901 ∧ σ.i 24 3 = Int32.ofNat (S + x) ∧ (es = [] → x = L.length ∧ L.length ≤ 3 * c ∧ CdS S C.2.1 C.2.2.1 C.2.2.2 L b σ)) ∧ (σ.i 28 3 = Int32.ofNat vs.length ∧ vs.length ≤ 16 ∧ NmS vs 56 σ) ∧ (σ.i 40 9 = Int32.ofNat c ∧ c ≤ 20000 ∧ (300 < c → ∃ e ∈ es, e.1 ≤ p)) ∧ RuC es σ ∧ (∀ e ∈ es, e.1 ≤ n ∧ 1 ≤ e.2 ∧ e.2 ≤ 7)
end CST

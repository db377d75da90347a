/-! THE CLASS: the world in the heap, what a declaration does -/
/-- the bits of a mask -/
def BtS (v : Int32) (L : List Nat) : Prop := ∀ b, b < 32 → v.toBitVec.getLsbD b = decide (b ∈ L)
/-- a kind: what is above it, its rows, the places in them -/
def KdC (σ : Sg) (k : Nat) (x : Knd) : Prop := BtS (σ.i 4 k) x.2.2.2.1 ∧ σ.i 5 k = Int32.ofNat x.2.2.2.1.length ∧ ∀ w, w < 3 → ∀ (i : Nat) y, (rwK x w)[i]? = some y → σ.i 7 ((w * 24 + k) * 24 + i) = Int32.ofNat y ∧ σ.i 8 ((w * 24 + k) * 24 + y) = Int32.ofNat i
/-- rows as they should be -/
def KdW (k : Nat) (x : Knd) : Prop := k ∈ x.2.2.2.1 ∧ ∀ w, w < 3 → (rwK x w).Nodup ∧ (rwK x w).length = x.2.2.2.1.length ∧ ∀ y, (y ∈ rwK x w → y ≤ k) ∧ (y ∈ rwK x w ↔ y ∈ x.2.2.2.1)
def WK (ks : List Knd) (σ : Sg) : Prop := ∀ (k : Nat) x, ks[k]? = some x → KdC σ k x ∧ KdW k x
def WJ (cs : List Cal) (σ : Sg) : Prop := ∀ (k : Nat) x, cs[k]? = some x → σ.i 32 k = Int32.ofNat x.2.2.1 ∧ σ.i 33 k = Int32.ofNat x.2.2.2
/-- column i of a truth table -/
def trN (j : Nat) : Int64 := if j = 0 then 0xAAAAAAAAAAAAAAAA else if j = 1 then 0xCCCCCCCCCCCCCCCC else if j = 2 then 0xF0F0F0F0F0F0F0F0 else if j = 3 then 0xFF00FF00FF00FF00 else if j = 4 then 0xFFFF0000FFFF0000 else 0xFFFFFFFF00000000
/-- a SPEC -/
def SpC (σ : Sg) (m p : Nat) (s : Spc) : Prop := σ.i 15 (3 * m + p) = Int32.ofInt s.1 ∧ σ.i 16 (3 * m + p) = (if s.2.1 = true then 1 else 0) ∧ σ.i 17 (3 * m + p) = (if s.2.1 = true then Int32.ofInt s.2.2 else 0)
/-- code that stands there -/
def CdH (S c0 c1 c2 : Nat) (L : Cd) (σ : Sg) : Prop := ∀ (j : Nat) q, L[j]? = some q → σ.i c0 (S + j) = q.1 ∧ σ.i c1 (S + j) = q.2.1 ∧ σ.i c2 (S + j) = Int32.ofNat q.2.2
/-- the frame of a declaration -/
def rtI (a : Nat) : Prop := (2 ≤ a ∧ a ≤ 33) ∨ (39 ≤ a ∧ a ≤ 45)
def DcF (C C' : Nat × Nat × Nat × Nat) (σ τ : Sg) : Prop := (∃ dyn, τ.sh = σ.sh ++ dyn) ∧ (∀ a, a < σ.sh.length → a ≠ 24 → τ.r a = σ.r a) ∧ (∀ a, a < σ.sh.length → ¬ rtI a → a ≠ C.2.1 → a ≠ C.2.2.1 → a ≠ C.2.2.2 → τ.i a = σ.i a) ∧ (∀ a, a < σ.sh.length → a ≠ 22 → a ≠ 23 → a ≠ 29 → a ≠ 30 → a ≠ 40 → τ.l a = σ.l a) ∧ ((C'.2.1 = C.2.1 ∨ σ.sh.length ≤ C'.2.1) ∧ (C'.2.2.1 = C.2.2.1 ∨ σ.sh.length ≤ C'.2.2.1) ∧ (C'.2.2.2 = C.2.2.2 ∨ σ.sh.length ≤ C'.2.2.2))
theorem DcF.tr {C C' C2 : Nat × Nat × Nat × Nat} {σ τ υ : Sg} (h : DcF C C' σ τ) (g : DcF C' C2 τ υ) : DcF C C2 σ υ := by
  obtain ⟨⟨d1, e1⟩, h2, h3, h4, h5, h6, h7⟩ := h
  obtain ⟨⟨d2, e2⟩, g2, g3, g4, g5, g6, g7⟩ := g
  have le : σ.sh.length ≤ τ.sh.length := by
    rw [e1, List.length_append]
    omega
  refine ⟨⟨d1 ++ d2, by rw [e2, e1, List.append_assoc]⟩, fun a q1 q2 => (g2 a (by omega) q2).trans (h2 a q1 q2), fun a q1 q2 q3 q4 q5 => (g3 a (by omega) q2 (by omega) (by omega) (by omega)).trans (h3 a q1 q2 q3 q4 q5), fun a q1 q2 q3 q4 q5 q6 => (g4 a (by omega) q2 q3 q4 q5 q6).trans (h4 a q1 q2 q3 q4 q5 q6), by omega, by omega, by omega⟩
theorem DcF.refl (C : Nat × Nat × Nat × Nat) (σ : Sg) : DcF C C σ σ := ⟨⟨[], (List.append_nil _).symm⟩, fun _ _ _ => rfl, fun _ _ _ _ _ _ => rfl, fun _ _ _ _ _ _ _ => rfl, Or.inl rfl, Or.inl rfl, Or.inl rfl⟩
theorem HdF.dc {σ τ : Sg} (C : Nat × Nat × Nat × Nat) (h : HdF σ τ) : DcF C C σ τ := ⟨⟨[], by rw [h.1, List.append_nil]⟩, fun a _ _ => by rw [h.2.1], fun a _ q _ _ _ => funext fun k => h.2.2.1 a k (fun z => q (Or.inr (by omega))) (fun z => q (Or.inl (by omega))), fun a _ _ _ q1 q2 _ => funext fun k => h.2.2.2 a k (fun z => by omega), Or.inl rfl, Or.inl rfl, Or.inl rfl⟩
theorem DcF.wi {σ τ : Sg} {C C' : Nat × Nat × Nat × Nat} {a k : Nat} {v : Int32} (h : DcF C C' σ τ) (ha : rtI a) : DcF C C' σ (τ.wi a k v) := ⟨h.1, h.2.1, fun b q1 q2 q3 q4 q5 => (wi_row (fun z => q2 (by rw [z]; exact ha))).trans (h.2.2.1 b q1 q2 q3 q4 q5), h.2.2.2.1, h.2.2.2.2⟩
theorem DcF.wl {σ τ : Sg} {C C' : Nat × Nat × Nat × Nat} {a k : Nat} {v : Int64} (h : DcF C C' σ τ) (ha : a = 22 ∨ a = 23 ∨ a = 29 ∨ a = 30) : DcF C C' σ (τ.wl a k v) := ⟨h.1, h.2.1, h.2.2.1, fun b q1 q2 q3 q4 q5 q6 => (funext fun j => wl_ne (by omega)).trans (h.2.2.2.1 b q1 q2 q3 q4 q5 q6), h.2.2.2.2⟩
section DEC
variable (t : Nat → Int32) (n : Nat) (W : Wld)
/-- the reader behind a declaration -/
def hDe (R : HR) : HR := hbd R fun p es => match pDe t n W p with
  | .inl q => .inl q
  | .inr (p', es', _) => .inr (p', es ++ es')
/-- the world behind it -/
def nxW : HR → Wld
  | .inr (p, []) => (match pDe t n W p with
    | .inr (_, [], W') => W'
    | _ => W)
  | _ => W
end DEC
def HE : HR → HR → Prop
  | .inl q, .inl q' => q = q'
  | .inr (p, es), .inr (p', es') => p = p' ∧ lsE es = lsE es'
  | _, _ => False
theorem HE.refl (R : HR) : HE R R := by
  rcases R with q | ⟨p, es⟩
  · exact rfl
  · exact ⟨rfl, rfl⟩
theorem WK.keep {ks : List Knd} {σ τ : Sg} (h : WK ks σ) (hl : ks.length ≤ 24) (g : ∀ k, k < ks.length → τ.i 4 k = σ.i 4 k ∧ τ.i 5 k = σ.i 5 k ∧ ∀ w, w < 3 → ∀ i, i < 24 → τ.i 7 ((w * 24 + k) * 24 + i) = σ.i 7 ((w * 24 + k) * 24 + i) ∧ τ.i 8 ((w * 24 + k) * 24 + i) = σ.i 8 ((w * 24 + k) * 24 + i)) : WK ks τ := fun k x hx => by
  have lk := (List.getElem?_eq_some_iff.mp hx).1
  obtain ⟨⟨h1, h2, h3⟩, h4⟩ := h k x hx
  obtain ⟨g1, g2, g3⟩ := g k lk
  refine ⟨⟨by rw [g1]; exact h1, g2.trans h2, fun w hw i y hy => ?_⟩, h4⟩
  obtain ⟨nd, le, mm⟩ := h4.2 w hw
  have li := (List.getElem?_eq_some_iff.mp hy).1
  have l24 := nd_len (k + 1) (rwK x w) nd (fun z hz => Nat.lt_succ_of_le ((mm z).1 hz))
  have hyk := (mm y).1 (List.mem_of_getElem? hy)
  exact ⟨(g3 w hw i (by omega)).1.trans (h3 w hw i y hy).1, (g3 w hw y (by omega)).2.trans (h3 w hw i y hy).2⟩
theorem WJ.keep {cs : List Cal} {σ τ : Sg} (h : WJ cs σ) (g : ∀ k, k < cs.length → τ.i 32 k = σ.i 32 k ∧ τ.i 33 k = σ.i 33 k) : WJ cs τ := fun k x hx => by
  have lk := (List.getElem?_eq_some_iff.mp hx).1
  exact ⟨(g k lk).1.trans (h k x hx).1, (g k lk).2.trans (h k x hx).2⟩

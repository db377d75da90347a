/-! THE CLASS: a method's body, the heap behind it -/
/-- the frame of a body: code from S on -/
def BoF (S : Nat) (C C' : Nat × Nat × Nat × Nat) (σ τ : Sg) : Prop := (∃ dyn, τ.sh = σ.sh ++ dyn) ∧ (∀ a, a < σ.sh.length → a ≠ 24 → τ.r a = σ.r a) ∧ (∀ a j, a < σ.sh.length → a ≠ 24 → a ≠ C.2.1 → a ≠ C.2.2.1 → a ≠ C.2.2.2 → ¬ (a = 40 ∧ ((3 ≤ j ∧ j ≤ 6) ∨ j = 9)) → ¬ (a = 28 ∧ j = 3) → τ.i a j = σ.i a j) ∧ (∀ a j, a < σ.sh.length → ¬ ((a = 29 ∨ a = 30) ∧ 56 ≤ j) → τ.l a j = σ.l a j) ∧ ((C'.2.1 = C.2.1 ∨ σ.sh.length ≤ C'.2.1) ∧ (C'.2.2.1 = C.2.2.1 ∨ σ.sh.length ≤ C'.2.2.1) ∧ (C'.2.2.2 = C.2.2.2 ∨ σ.sh.length ≤ C'.2.2.2)) ∧ (∀ j, j < S → τ.i C'.2.1 j = σ.i C.2.1 j ∧ τ.i C'.2.2.1 j = σ.i C.2.2.1 j ∧ τ.i C'.2.2.2 j = σ.i C.2.2.2 j) ∧ ((τ.sh = σ.sh ∧ C' = C) ∨ (τ.sh = σ.sh ++ [Sh.arr 0 C'.1] ++ [Sh.arr 0 C'.1] ++ [Sh.arr 0 C'.1] ∧ C.1 ≤ S + 901 ∧ (C'.1 = 2 * C.1 ∨ C'.1 = S + 902) ∧ 2 * C.1 ≤ C'.1))
/-- a reading, its code left out -/
def hrR : RR → HR
  | .inl q => .inl q
  | .inr (p, _, es, _, _) => .inr (p, es)
section BOD
variable {Z : zT} {d : Nat} {t : Nat → Int32} {n N : Nat} {B : Nat × Nat × Nat × Nat × Nat} {C : Nat × Nat × Nat × Nat} {W : Wld} {w : Int} {S : Nat} {σ τ σ0 : Sg} {K : kS} {vs : List (List Int32)}
theorem CSt.bd {RR' : RR} (h : CSt t n N B C W w S σ0 vs RR' τ) : BdS t n N vs (hrR RR') τ := by
  rcases RR' with q | ⟨p, c, es, L, b⟩
  · obtain ⟨-, b1, -, b4, b5⟩ := h
    exact ⟨b1, b4, b5⟩
  · obtain ⟨-, b1, -, ⟨b4, b5, b6⟩, -, ru, hev⟩ := h
    exact ⟨b1, ⟨b4, b5, b6.v⟩, ru, hev⟩
theorem CSt.cbs {RR' : RR} (h : CSt t n N B C W w S σ0 vs RR' τ) : CBs t n N B C W w S σ0 τ := by
  rcases RR' with q | ⟨p, c, es, L, b⟩
  · exact h.1
  · exact h.1
theorem CBs.hb (h : CBs t n N B C W w S σ0 τ) : HB t n N B C W τ := ⟨h.1, h.2.1, h.2.2.1, h.2.2.2.1, h.2.2.2.2.1, h.2.2.2.2.2.2.1, h.2.2.2.2.2.2.2.1, h.2.2.2.2.2.2.2.2.1, h.2.2.2.2.2.2.2.2.2.1⟩
theorem CSt.atX {RR' : RR} (h : CSt t n N B C W w S σ0 vs RR' τ) : ∃ x, x ≤ 901 ∧ τ.i 24 3 = Int32.ofNat (S + x) := by
  rcases RR' with q | ⟨p, c, es, L, b⟩
  · exact h.2.2.1
  · obtain ⟨x, x1, x2, -⟩ := h.2.2.1
    exact ⟨x, x1, x2⟩
theorem bo_fr {cap' d0 d1 d2 : Nat} {τ1 : Sg} (hs : 102 ≤ σ.sh.length) (hb : C.2.1 < σ.sh.length ∧ C.2.2.1 < σ.sh.length ∧ C.2.2.2 < σ.sh.length) (hc : (C.2.1 ≠ C.2.2.1 ∧ C.2.1 ≠ C.2.2.2 ∧ C.2.2.1 ≠ C.2.2.2) ∧ (C.2.1 = 25 ∨ 102 ≤ C.2.1) ∧ (C.2.2.1 = 26 ∨ 102 ≤ C.2.2.1) ∧ (C.2.2.2 = 27 ∨ 102 ≤ C.2.2.2)) (ho : OpR σ τ1 S C.1 C.2.1 C.2.2.1 C.2.2.2 cap' d0 d1 d2) (hr : RdF S d0 d1 d2 (τ1.wi 40 9 0) τ) : BoF S C (cap', d0, d1, d2) σ τ := by
  obtain ⟨-, -, -, shp, fr, cod⟩ := ho
  obtain ⟨r1, r2, r3, r4⟩ := hr
  have shd : ∃ dyn, τ1.sh = σ.sh ++ dyn := by
    rcases shp with q | q
    · exact ⟨[], by rw [q.1, List.append_nil]⟩
    · exact ⟨[Sh.arr 0 cap'] ++ [Sh.arr 0 cap'] ++ [Sh.arr 0 cap'], by rw [q.1]; simp only [List.append_assoc]⟩
  have nw : (cap' = C.1 ∧ d0 = C.2.1 ∧ d1 = C.2.2.1 ∧ d2 = C.2.2.2) ∨ ((cap' = 2 * C.1 ∨ cap' = S + 902) ∧ d0 = σ.sh.length ∧ d1 = σ.sh.length + 1 ∧ d2 = σ.sh.length + 2) := by
    rcases shp with q | q
    · exact Or.inl ⟨q.2.1, q.2.2.1, q.2.2.2.1, q.2.2.2.2⟩
    · exact Or.inr ⟨q.2.1, q.2.2.2⟩
  refine ⟨?_, fun a q1 q2 => ?_, fun a j q1 q2 q3 q4 q5 q6 q7 => ?_, fun a j q1 q2 => ?_, ?_, fun j hj => ?_, ?_⟩
  · rw [r1]
    exact shd
  · rw [r2]
    exact funext fun j => (fr a j q1).2.2 (by omega)
  · rw [r3 a j (by unfold rdI; omega)]
    rw [wi_ne (by omega)]
    exact (fr a j q1).1 (by omega) (by omega)
  · rw [r4 a j q2]
    exact (fr a j q1).2.1
  · show (d0 = C.2.1 ∨ σ.sh.length ≤ d0) ∧ (d1 = C.2.2.1 ∨ σ.sh.length ≤ d1) ∧ (d2 = C.2.2.2 ∨ σ.sh.length ≤ d2)
    omega
  · obtain ⟨c1, c2, c3⟩ := cod j hj
    have e : ∀ a, a = d0 ∨ a = d1 ∨ a = d2 → τ.i a j = τ1.i a j := fun a q => by
      rw [r3 a j (by unfold rdI; omega)]
      exact wi_ne (by omega)
    exact ⟨(e d0 (by omega)).trans c1, (e d1 (by omega)).trans c2, (e d2 (by omega)).trans c3⟩
  · rcases shp with q | q
    · exact Or.inl ⟨by rw [r1]; exact q.1, by rw [q.2.1, q.2.2.1, q.2.2.2.1, q.2.2.2.2]⟩
    · exact Or.inr ⟨by rw [r1]; exact q.1, q.2.2.1.2.1, q.2.1, q.2.2.1.2.2⟩
/-- the reading of a body, its code left out -/
def hbX (t : Nat → Int32) (n : Nat) (env : Env) (vs : List (List Int32)) (R : HR) : HR := hbd R fun p es => match pX t n env 12 false vs p 0 with
  | .inl q => .inl q
  | .inr (p', _, es', _) => .inr (p', es ++ es')
theorem hbX_eq {env : Env} {R : HR} : hrR (emR 25 0 (gR (pX t n env 12 false) S vs (bd0 R))) = hbX t n env vs R := by
  rcases R with q | ⟨p, es⟩
  · rfl
  · unfold hbX hbd bd0 gR bdR
    dsimp only
    cases pX t n env 12 false vs p 0 with
    | inl q => rfl
    | inr x => rfl
/-- a body -/
theorem cl_bodyH {R : HR} (hd : 191 ≤ d) (h : CB0 t n N B C W w σ) (hb : BdS t n N vs R σ) (hj : ∀ p es, R = .inr (p, es) → ∀ nm ∈ vs, nm ≠ []) (hv : vs.length ≤ 3) (hc : S < C.1 ∧ C.1 ≤ 990000) (h2 : w = -2 → ∀ p, R ≠ .inr (p, [])) (k : ∀ τ C', HB t n N B C' W τ → BoF S C C' σ τ → BdS t n N vs (hbX t n (enW W.1 W.2.1 W.2.2.1 w) vs R) τ → C'.1 ≤ 1980000 → S + 901 < C'.1 → (∃ x, x ≤ 901 ∧ τ.i 24 3 = Int32.ofNat (S + x) ∧ ∀ p p' c' y, R = .inr (p, []) → pX t n (enW W.1 W.2.1 W.2.2.1 w) 12 false vs p 0 = .inr (p', c', [], y) → x = (cdB y false S 0).length + 1 ∧ CdH S C'.2.1 C'.2.2.1 C'.2.2.2 (cdB y false S 0 ++ [(25, 0, 0)]) τ) → K (.inl none) τ) : C_X7_readBody_0 Z (d + 1) σ (Int32.ofNat S) K := by
  have hCo := h.2.2.2.2.1
  have hs : 102 ≤ σ.sh.length := (List.getElem?_eq_some_iff.mp (h.1.s (a := 101) t0_101)).1
  obtain ⟨⟨-, z2⟩, ⟨-, z4⟩, ⟨-, z6⟩, m1, y0, y1, y2, hy⟩ := hCo
  have b0 := (List.getElem?_eq_some_iff.mp z2).1
  have b1 := (List.getElem?_eq_some_iff.mp z4).1
  have b2 := (List.getElem?_eq_some_iff.mp z6).1
  refine cl_body hd h hb hj hv (by omega) (by omega) (by omega) h2 (fun τ τ1 cap' d0 d1 d2 ho st => ?_)
  have cbs := st.cbs
  have hr : RdF S d0 d1 d2 (τ1.wi 40 9 0) τ := cbs.2.2.2.2.2.2.2.2.2.2.2
  have bo := bo_fr hs ⟨b0, b1, b2⟩ ⟨m1, y0, y1, y2⟩ ho hr
  have bd := st.bd
  rw [hbX_eq] at bd
  have hcap : cap' ≤ 1980000 ∧ S + 901 < cap' := by
    obtain ⟨-, -, ⟨p1, -⟩, shp, -⟩ := ho
    rcases shp with q | q <;> omega
  refine k τ _ cbs.hb bo bd hcap.1 hcap.2 ?_
  obtain ⟨x, x1, x2⟩ := st.atX
  refine ⟨x, x1, x2, fun p p' c' y e e2 => ?_⟩
  subst e
  have eR : emR 25 0 (gR (pX t n (enW W.1 W.2.1 W.2.2.1 w) 12 false) S vs (bd0 (.inr (p, [])))) = .inr (p', c', [], [] ++ cdB y false (S + 0) 0 ++ [(25, 0, 0)], 0) := by
    unfold gR bdR bd0
    dsimp only
    rw [e2]
    rfl
  rw [eR] at st
  obtain ⟨-, -, ⟨x', x3, x4, x5⟩, -⟩ := st
  obtain ⟨g1, g2, g3, g4⟩ := x5 rfl
  rw [List.nil_append] at g1 g3
  have exx : x = x' := by
    rw [x2] at x4
    have := (oN_eq (by omega) (by omega)).mp x4
    omega
  rw [exx, g1, List.length_append]
  exact ⟨rfl, g3⟩
end BOD

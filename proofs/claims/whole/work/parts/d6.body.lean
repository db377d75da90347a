/-! THE CLASS: a body read -/
section BD
variable (t : Nat → Int32) (n N : Nat) (B : Nat × Nat × Nat × Nat × Nat) (C : Nat × Nat × Nat × Nat) (W : Wld) (w : Int)
/-- what holds of the reader's surroundings between texts' parts -/
def CB0 (σ : Sg) : Prop := FX ΦC σ.sh σ.r ∧ SgA σ B.1 B.2.1 B.2.2.1 B.2.2.2.1 B.2.2.2.2 ∧ SgS t n N σ B.2.1 B.2.2.1 B.2.2.2.1 B.2.2.2.2 ∧ (n ≤ 8192 ∧ N + 1 ≤ B.1) ∧ CoA σ C.1 C.2.1 C.2.2.1 C.2.2.2 ∧ (B.2.1 ≠ C.2.1 ∧ B.2.1 ≠ C.2.2.1 ∧ B.2.1 ≠ C.2.2.2 ∧ B.2.2.1 ≠ C.2.1 ∧ B.2.2.1 ≠ C.2.2.1 ∧ B.2.2.1 ≠ C.2.2.2) ∧
  (σ.i 28 0 = Int32.ofNat W.1.length ∧ W.1.length ≤ 24 ∧ NmS (W.1.map (·.1)) 0 σ ∧ (W.1.map (·.1)).Nodup ∧ ∀ (k : Nat) x, W.1[k]? = some x → σ.i 3 k = if x.2.1 = true then 1 else 0) ∧
  (σ.i 28 1 = Int32.ofNat W.2.1.length ∧ W.2.1.length ≤ 24 ∧ NmS (W.2.1.map (·.1)) 24 σ ∧ (W.2.1.map (·.1)).Nodup ∧ ∀ (k : Nat) x, W.2.1[k]? = some x → σ.i 31 k = Int32.ofNat x.2.1 ∧ (1 ≤ x.2.1 ∧ x.2.1 ≤ 3)) ∧
  (σ.i 28 2 = Int32.ofNat W.2.2.1.length ∧ W.2.2.1.length ≤ 8 ∧ NmS W.2.2.1 48 σ ∧ W.2.2.1.Nodup) ∧
  (σ.i 40 7 = (if w = -1 then 0 else 1) ∧ σ.i 40 8 = Int32.ofInt (if w < 0 then -1 else w) ∧ (-2 ≤ w ∧ w < W.2.1.length))
/-- names told, but for junk (an empty name) -/
def NmV (ns : List (List Int32)) (o : Nat) (σ : Sg) : Prop := ∀ (k : Nat) nm, ns[k]? = some nm → nm ≠ [] → σ.l 29 (o + k) = nmH nm ∧ σ.l 30 (o + k) = nmT nm ∧ (nm.length ≤ 16 ∧ ∀ c ∈ nm, nmC c)
theorem NmV.keep {σ τ : Sg} {ns : List (List Int32)} {o : Nat} (h : NmV ns o σ) (e : ∀ k, k < ns.length → τ.l 29 (o + k) = σ.l 29 (o + k) ∧ τ.l 30 (o + k) = σ.l 30 (o + k)) : NmV ns o τ := fun k nm hk hn => by
  obtain ⟨e1, e2⟩ := e k (List.getElem?_eq_some_iff.mp hk).1
  obtain ⟨h1, h2, h3⟩ := h k nm hk hn
  exact ⟨e1.trans h1, e2.trans h2, h3⟩
theorem NmV.nm {σ : Sg} {ns : List (List Int32)} {o : Nat} (h : NmV ns o σ) (hj : ∀ nm ∈ ns, nm ≠ []) : NmS ns o σ := fun k nm hk => h k nm hk (hj nm (List.mem_of_getElem? hk))
theorem NmS.v {σ : Sg} {ns : List (List Int32)} {o : Nat} (h : NmS ns o σ) : NmV ns o σ := fun k nm hk _ => h k nm hk
/-- where the reader stands: dead, or at a place with rules broken -/
def BdS (vs : List (List Int32)) : Nat ⊕ (Nat × Evs) → Sg → Prop
  | .inl q, σ => (σ.i 40 3 = Int32.ofNat N ∧ σ.i 40 4 = Int32.ofNat q ∧ q ≤ n) ∧ σ.i 28 3 = Int32.ofNat vs.length ∧ vs.length ≤ 16
  | .inr (p, es), σ => ((∃ i, i ≤ N ∧ σ.i 40 3 = Int32.ofNat i ∧ sgP t n i = p) ∧ σ.i 40 4 = -1) ∧ (σ.i 28 3 = Int32.ofNat vs.length ∧ vs.length ≤ 16 ∧ NmV vs 56 σ) ∧ RuC es σ ∧ (∀ e ∈ es, e.1 ≤ n ∧ 1 ≤ e.2 ∧ e.2 ≤ 7)
end BD
def bd0 : Nat ⊕ (Nat × Evs) → RR
  | .inl q => .inl q
  | .inr (p, es) => .inr (p, 0, es, [], 0)
section BD2
variable {Z : zT} {d : Nat} {t : Nat → Int32} {n N : Nat} {B : Nat × Nat × Nat × Nat × Nat} {C : Nat × Nat × Nat × Nat} {W : Wld} {w : Int} {S : Nat} {σ τ : Sg} {K : kS} {vs : List (List Int32)}
theorem CB0.op {cap' d0 d1 d2 : Nat} (h : CB0 t n N B C W w σ) (g : OpR σ τ S C.1 C.2.1 C.2.2.1 C.2.2.2 cap' d0 d1 d2) : CB0 t n N B (cap', d0, d1, d2) W w τ ∧ (∀ b, b < 100 → b ≠ 24 → b ≠ 27 → τ.i b = σ.i b) ∧ (τ.l 29 = σ.l 29 ∧ τ.l 30 = σ.l 30) := by
  obtain ⟨f, sa, ss, hn, ca, ne, ⟨k1, k2, k3, k4, k5⟩, ⟨q1, q2, q3, q4, q5⟩, ⟨l1, l2, l3, l4⟩, ⟨o1, o2, o3⟩⟩ := h
  obtain ⟨f', ca', op, shp, fr, cod⟩ := g
  have y2 := ca.2.2.2.2.2.2.1
  have l100 : 101 < σ.sh.length := (List.getElem?_eq_some_iff.mp (f.s (a := 101) t0_101)).1
  obtain ⟨⟨a1, a2⟩, ⟨a3, a4⟩, ⟨a5, a6⟩, ⟨a7, a8⟩, ⟨n1, n2⟩, e0, e1, e2, e3, hc⟩ := sa
  have b0 := (List.getElem?_eq_some_iff.mp a2).1
  have b1 := (List.getElem?_eq_some_iff.mp a4).1
  have b2 := (List.getElem?_eq_some_iff.mp a6).1
  have b3 := (List.getElem?_eq_some_iff.mp a8).1
  have fi : ∀ b j, b < σ.sh.length → b ≠ 24 → b ≠ C.2.2.2 → τ.i b j = σ.i b j := fun b j q1 q2 q3 => (fr b j q1).1 (by omega) (by omega)
  have fl : ∀ b j, b < σ.sh.length → τ.l b j = σ.l b j := fun b j q => (fr b j q).2.1
  have fR : ∀ b j, b < σ.sh.length → b ≠ 24 → τ.r b j = σ.r b j := fun b j q1 q2 => (fr b j q1).2.2 (by omega)
  have low : ∀ b j, b < 100 → b ≠ 24 → b ≠ 27 → τ.i b j = σ.i b j := fun b j q1 q2 q3 => fi b j (by omega) q2 (by omega)
  have shs : ∀ (a : Nat) s, σ.sh[a]? = some s → τ.sh[a]? = some s := fun a s hs => by
    rcases shp with q | q
    · rw [q.1]
      exact hs
    · rw [q.1, List.append_assoc, List.append_assoc, List.getElem?_append_left (List.getElem?_eq_some_iff.mp hs).1]
      exact hs
  have nw : (cap' = C.1 ∧ d0 = C.2.1 ∧ d1 = C.2.2.1 ∧ d2 = C.2.2.2) ∨ (σ.sh.length ≤ d0 ∧ σ.sh.length ≤ d1 ∧ σ.sh.length ≤ d2) := by
    rcases shp with q | q
    · exact Or.inl ⟨q.2.1, q.2.2.1, q.2.2.2.1, q.2.2.2.2⟩
    · exact Or.inr (by omega)
  refine ⟨⟨f', ⟨⟨(fR 41 0 (by omega) (by decide)).trans a1, shs _ _ a2⟩, ⟨(fR 41 1 (by omega) (by decide)).trans a3, shs _ _ a4⟩, ⟨(fR 41 2 (by omega) (by decide)).trans a5, shs _ _ a6⟩, ⟨(fR 41 3 (by omega) (by decide)).trans a7, shs _ _ a8⟩, ⟨n1, n2⟩, e0, e1, e2, e3, hc⟩, ?_, hn, ca', ?_, ⟨(low 28 0 (by decide) (by decide) (by decide)).trans k1, k2, k3.keep (fun k _ => ⟨fl 29 _ (by omega), fl 30 _ (by omega)⟩), k4, fun k x hx => (low 3 k (by decide) (by decide) (by decide)).trans (k5 k x hx)⟩, ⟨(low 28 1 (by decide) (by decide) (by decide)).trans q1, q2, q3.keep (fun k _ => ⟨fl 29 _ (by omega), fl 30 _ (by omega)⟩), q4, fun k x hx => ⟨(low 31 k (by decide) (by decide) (by decide)).trans (q5 k x hx).1, (q5 k x hx).2⟩⟩, ⟨(low 28 2 (by decide) (by decide) (by decide)).trans l1, l2, l3.keep (fun k _ => ⟨fl 29 _ (by omega), fl 30 _ (by omega)⟩), l4⟩, ⟨(low 40 7 (by decide) (by decide) (by decide)).trans o1, (low 40 8 (by decide) (by decide) (by decide)).trans o2, o3⟩⟩, fun b q1 q2 q3 => funext fun j => low b j q1 q2 q3, funext fun j => fl 29 j (by omega), funext fun j => fl 30 j (by omega)⟩
  · exact ss.keep (low 41 4 (by decide) (by decide) (by decide)) (funext fun j => fi _ j b0 (by omega) (by omega)) (funext fun j => fi _ j b1 (by omega) (by omega)) (funext fun j => fl _ j b2) (funext fun j => fl _ j b3)
  · show B.2.1 ≠ d0 ∧ B.2.1 ≠ d1 ∧ B.2.1 ≠ d2 ∧ B.2.2.1 ≠ d0 ∧ B.2.2.1 ≠ d1 ∧ B.2.2.1 ≠ d2
    omega
theorem CB0.bs {C : Nat × Nat × Nat × Nat} (h : CB0 t n N B C W w σ) (h4 : σ.i 24 4 = Int32.ofNat (S + 901)) (hS : S + 901 < C.1) : CBs t n N B C W w S σ σ := ⟨h.1, h.2.1, h.2.2.1, h.2.2.2.1, h.2.2.2.2.1, ⟨h4, hS⟩, h.2.2.2.2.2.1, h.2.2.2.2.2.2.1, h.2.2.2.2.2.2.2.1, h.2.2.2.2.2.2.2.2.1, h.2.2.2.2.2.2.2.2.2, RdF.refl _ _ _ _ _⟩
theorem CB0.w9 {v : Int32} {C : Nat × Nat × Nat × Nat} (h : CB0 t n N B C W w σ) : CB0 t n N B C W w (σ.wi 40 9 v) := by
  obtain ⟨f, sa, ss, hn, ca, ne, ⟨k1, k2, k3, k4, k5⟩, ⟨q1, q2, q3, q4, q5⟩, ⟨l1, l2, l3, l4⟩, ⟨o1, o2, o3⟩⟩ := h
  have sa' := sa
  obtain ⟨⟨a1, a2⟩, ⟨a3, a4⟩, ⟨a5, a6⟩, ⟨a7, a8⟩, ⟨n1, n2⟩, e0, e1, e2, e3, hc⟩ := sa
  exact ⟨f, sa', ss.keep (wi_ne (by decide)) (wi_row (by omega)) (wi_row (by omega)) rfl rfl, hn, ca, ne, ⟨(wi_ne (by decide)).trans k1, k2, k3, k4, fun k x hx => (wi_ne (by omega)).trans (k5 k x hx)⟩, ⟨(wi_ne (by decide)).trans q1, q2, q3, q4, fun k x hx => ⟨(wi_ne (by omega)).trans (q5 k x hx).1, (q5 k x hx).2⟩⟩, ⟨(wi_ne (by decide)).trans l1, l2, l3, l4⟩, ⟨(wi_ne (by decide)).trans o1, (wi_ne (by decide)).trans o2, o3⟩⟩
/-- a body: E, and back -/
theorem cl_body {R : Nat ⊕ (Nat × Evs)} (hd : 191 ≤ d) (h : CB0 t n N B C W w σ) (hb : BdS t n N vs R σ) (hj : ∀ p es, R = .inr (p, es) → ∀ nm ∈ vs, nm ≠ []) (hv : vs.length ≤ 3) (hS : S ≤ 990000) (h1 : 1 ≤ C.1) (hc : S ≤ C.1 ∧ C.1 ≤ 990000) (h2 : w = -2 → ∀ p, R ≠ .inr (p, [])) (k : ∀ τ τ1 cap' d0 d1 d2, OpR σ τ1 S C.1 C.2.1 C.2.2.1 C.2.2.2 cap' d0 d1 d2 → CSt t n N B (cap', d0, d1, d2) W w S (τ1.wi 40 9 0) vs (emR 25 0 (gR (pX t n (enW W.1 W.2.1 W.2.2.1 w) 12 false) S vs (bd0 R))) τ → K (.inl none) τ) : C_X7_readBody_0 Z (d + 1) σ (Int32.ofNat S) K := by
  obtain ⟨e, rfl⟩ : ∃ e, d = e + 2 := ⟨d - 2, by omega⟩
  refine T_X7_readBody_0 h.1 (cl_opn h.1 h.2.2.2.2.1 hS h1 hc (fun τ1 cap' d0 d1 d2 ho => ?_))
  obtain ⟨h3, lo, l29, l30⟩ := h.op ho
  have ho' := ho
  obtain ⟨-, ca', ⟨p1, p2, p3, p4⟩, -⟩ := ho
  obtain ⟨-, -, -, ⟨m1, m2, m3⟩, y0, y1, y2, -⟩ := ca'
  have y0 : d0 = 25 ∨ 102 ≤ d0 := y0
  have y1 : d1 = 26 ∨ 102 ≤ d1 := y1
  have y2 : d2 = 27 ∨ 102 ≤ d2 := y2
  have cb : CBs t n N B (cap', d0, d1, d2) W w S (τ1.wi 40 9 0) (τ1.wi 40 9 0) := (h3.w9 (v := 0)).bs ((wi_ne (by decide)).trans p3) p1
  have st : CSt t n N B (cap', d0, d1, d2) W w S (τ1.wi 40 9 0) vs (bd0 R) (τ1.wi 40 9 0) := by
    have g3 : ∀ j, j ≠ 9 → (τ1.wi 40 9 0).i 40 j = σ.i 40 j := fun j q => (wi_ne (by omega)).trans (by rw [lo 40 (by decide) (by decide) (by decide)])
    have g28 : (τ1.wi 40 9 0).i 28 3 = σ.i 28 3 := (wi_ne (by decide)).trans (by rw [lo 28 (by decide) (by decide) (by decide)])
    rcases R with q | ⟨p, es⟩
    · obtain ⟨⟨b1, b2, b3⟩, b4, b5⟩ := hb
      exact ⟨cb, ⟨(g3 3 (by decide)).trans b1, (g3 4 (by decide)).trans b2, b3⟩, ⟨0, by omega, (wi_ne (by decide)).trans p2⟩, g28.trans b4, b5⟩
    · obtain ⟨⟨⟨i, i1, i2, i3⟩, b2⟩, ⟨b4, b5, b6⟩, ru, hev⟩ := hb
      refine ⟨cb, ⟨⟨i, i1, (g3 3 (by decide)).trans i2, i3⟩, (g3 4 (by decide)).trans b2⟩, ⟨0, by omega, (wi_ne (by decide)).trans p2, fun _ => ⟨rfl, by decide, fun j q hq => ?_, ?_⟩⟩, ⟨g28.trans b4, b5, (b6.nm (hj p es rfl)).keep (fun j _ => ?_)⟩, ⟨wi_eq, by decide, fun q => absurd q (by decide)⟩, ?_, hev⟩
      · cases hq
      · show (τ1.wi 40 9 0).i d2 (S + 0) = 0
        exact (wi_ne (by omega)).trans p4
      · show τ1.l 29 _ = _ ∧ τ1.l 30 _ = _
        rw [l29, l30]
        exact ⟨rfl, rfl⟩
      · unfold RuC at ru ⊢
        rw [g3 5 (by decide), g3 6 (by decide)]
        exact ru
  have gd : GD 0 (wK w) (bd0 R) := by
    intro p c es L b q
    rcases R with q' | ⟨p', es'⟩
    · cases q
    · obtain ⟨rfl, rfl, rfl, rfl, rfl⟩ := rr_inj q
      refine ⟨Nat.zero_le _, fun z => ?_⟩
      unfold wK
      by_cases y : w = -2
      · exact absurd (by rw [z]) (h2 y p')
      · rw [if_neg y]
        exact Nat.le_refl _
  have fol := (fol_cX (Z := Z) (t := t) (n := n) (N := N) (B := B) (C := (cap', d0, d1, d2)) (W := W) (w := w) (S := S) (σ0 := τ1.wi 40 9 0) 12 (by decide) vs (by omega)).1 (e + 2) (by omega)
  refine fol (bd0 R) (τ1.wi 40 9 0) _ st gd (fun τ2 s2 l2 => ?_)
  have g2 := l2.1 _ gd
  exact cl_emit s2 (fun p c L b e => by have := g2.pl p c L b e; omega) (fun τ3 s3 => k τ3 τ1 cap' d0 d1 d2 ho' s3)
end BD2

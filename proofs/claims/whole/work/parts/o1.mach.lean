/-! THE CLASS: the machine's state -/
abbrev Fc : Type := (Nat → Int32) × (Nat → Int32) × (Nat → Int32)
/-- code that lies from P on -/
def CdF (f : Fc) (P : Nat) (L : Cd) : Prop := ∀ (j : Nat) q, L[j]? = some q → f.1 (P + j) = q.1 ∧ f.2.1 (P + j) = q.2.1 ∧ f.2.2 (P + j) = Int32.ofNat q.2.2
section CDF
variable {f : Fc} {P : Nat} {A B : Cd} {q : Int32 × Int32 × Nat}
theorem CdF.l (h : CdF f P (A ++ B)) : CdF f P A := fun j q hq => h j q (by rw [List.getElem?_append_left (List.getElem?_eq_some_iff.mp hq).1]; exact hq)
theorem CdF.r (h : CdF f P (A ++ B)) : CdF f (P + A.length) B := fun j q hq => by
  have := h (A.length + j) q (by rw [List.getElem?_append_right (by omega), Nat.add_sub_cancel_left]; exact hq)
  rw [← Nat.add_assoc] at this
  exact this
theorem CdF.c (h : CdF f P (q :: B)) : f.1 P = q.1 ∧ f.2.1 P = q.2.1 ∧ f.2.2 P = Int32.ofNat q.2.2 := h 0 q rfl
theorem CdF.t (h : CdF f P (q :: B)) : CdF f (P + 1) B := CdF.r (A := [q]) h
end CDF
/-- what is counted, in the heap -/
def MeS (S : Es) (σ : Sg) : Prop := σ.i 84 4 = Int32.ofNat S.2.1 ∧ (σ.i 83 16 = Int32.ofNat S.2.2.1.length ∧ S.2.2.1.length ≤ 512 ∧ ∀ (i : Nat) x, S.2.2.1[i]? = some x → σ.i 96 i = x) ∧ σ.i 83 18 = Int32.ofNat S.2.2.2.1 ∧ S.2.2.2.2.length = min S.2.2.2.1 512 ∧ ∀ (i x : Nat), S.2.2.2.2[i]? = some x → σ.i 97 i = Int32.ofNat x
/-- the world, as a run of the machine finds and leaves it -/
def MbS (C : Nat × Nat × Nat × Nat) (W : Wld) (wy a0 ch U : Nat) (f : Fc) (V : Nat × Nat × Nat × Nat) (σ : Sg) : Prop := (∃ u, LqS C W wy a0 V u σ ∧ u + 18 * upN σ ≤ U) ∧ (NeS W σ ∧ NtS W wy σ) ∧ CoA σ C.1 C.2.1 C.2.2.1 C.2.2.2 ∧ (σ.i C.2.1 = f.1 ∧ σ.i C.2.2.1 = f.2.1 ∧ σ.i C.2.2.2 = f.2.2) ∧ σ.i 84 3 = Int32.ofNat ch
/-- the machine stands at P, k steps aren't counted yet -/
def McA (C : Nat × Nat × Nat × Nat) (W : Wld) (wy a0 ch U : Nat) (f : Fc) (fuel : Nat) (V : Nat × Nat × Nat × Nat) (S : Es) (k P dp : Nat) (lt : Int32) (on : List Nat) (stk : List Int64) (tn j : Nat) (σ : Sg) : Prop := MbS C W wy a0 ch U f V σ ∧ MeS S σ ∧ (σ.i 83 7 = Int32.ofNat P ∧ (∃ s, σ.i 83 14 = Int32.ofNat s ∧ s + k = S.1) ∧ (σ.i 83 6 = Int32.ofNat dp ∧ dp ≤ 24) ∧ σ.i 83 8 = lt ∧ σ.i 83 9 = 0 ∧ σ.i 83 11 = -1 ∧ σ.l 83 10 = lyE on ∧ LyW W on ∧ StkS stk σ) ∧ (S.1 ≤ fuel ∧ fuel ≤ 100000) ∧ S.2.2.2.1 ≤ tn ∧ tn + j ≤ 3 * S.1
/-- what the machine's own steps write -/
def mE (a : Nat) : Prop := a = 83 ∨ (93 ≤ a ∧ a ≤ 97)
/-- what a run keeps: rows at homes below hm, frames' words N -/
def MFr (hm : Nat) (N : Nat → Prop) (V V' : Nat × Nat × Nat × Nat) (σ τ : Sg) : Prop := GaF (fun a => seE V a ∨ neE σ a ∨ (57 ≤ a ∧ a ≤ 63) ∨ (83 ≤ a ∧ a ≤ 97) ∨ a = 101) σ τ ∧ (∀ j, j ≠ 4 → j ≠ 12 → τ.i 84 j = σ.i 84 j) ∧ ((∀ j, j < 128 * hm → τ.i 85 j = σ.i 85 j) ∧ ∀ j, j < 4 * hm → τ.i 86 j = σ.i 86 j ∧ τ.i 87 j = σ.i 87 j ∧ τ.i 88 j = σ.i 88 j) ∧ (∀ j, N j → τ.l 94 j = σ.l 94 j) ∧ SzH σ τ V.1 V'.1 ∧ (V'.2.1 = V.2.1 ∨ σ.sh.length ≤ V'.2.1) ∧ (V'.2.2.1 = V.2.2.1 ∨ σ.sh.length ≤ V'.2.2.1) ∧ (V'.2.2.2 = V.2.2.2 ∨ σ.sh.length ≤ V'.2.2.2) ∧ (sqA τ = sqA σ ∨ σ.sh.length ≤ sqA τ)
section MACH
variable {Z : zT} {d : Nat} {C V V' V2 : Nat × Nat × Nat × Nat} {W : Wld} {wy a0 ch U fuel : Nat} {f : Fc} {S : Es} {k P dp tn j nv hm : Nat} {lt : Int32} {on : List Nat} {stk vs args : List Int64} {σ τ υ : Sg} {K Kx : kS} {N : Nat → Prop}
theorem MbS.fx (h : MbS C W wy a0 ch U f V σ) : FX ΦC σ.sh σ.r := by
  obtain ⟨⟨u, h, -⟩, -⟩ := h
  exact h.1.1.1
theorem McA.fx (h : McA C W wy a0 ch U f fuel V S k P dp lt on stk tn j σ) : FX ΦC σ.sh σ.r := h.1.fx
theorem CoA.gw {E : Nat → Prop} {c c0 c1 c2 : Nat} (h : CoA σ c c0 c1 c2) (g : GaF E σ τ) (hl : 25 ≤ σ.sh.length) : CoA τ c c0 c1 c2 := by
  obtain ⟨⟨h1, h1'⟩, ⟨h2, h2'⟩, ⟨h3, h3'⟩, h4⟩ := h
  have r : ∀ k, τ.r 24 k = σ.r 24 k := fun k => g.2.1 24 k (by omega) (by omega)
  exact ⟨⟨(r 0).trans h1, g.sh h1'⟩, ⟨(r 1).trans h2, g.sh h2'⟩, ⟨(r 2).trans h3, g.sh h3'⟩, h4⟩
theorem FX.len (F : FX ΦC σ.sh σ.r) : 102 ≤ σ.sh.length := by
  obtain ⟨⟨dyn, e⟩, -⟩ := F
  rw [e, List.length_append]
  have : ΦC.sh0.length = 102 := by decide +kernel
  omega
theorem MbS.xf (h : MbS C W wy a0 ch U f V σ) (g : XF mE σ τ) : MbS C W wy a0 ch U f V τ := by
  obtain ⟨⟨u, h1, h2⟩, h3, h4, ⟨h5, h6, h7⟩, h8⟩ := h
  have F := h1.1.1.1
  obtain ⟨-, -, -, -, p0, p1, p2, -⟩ := id h4
  have ne : ∀ a, a ≤ 92 ∧ a ≠ 83 ∨ 98 ≤ a → ¬ mE a := fun a q z => by unfold mE at z; omega
  obtain ⟨L, e⟩ := h1.xg g (fun a q => by unfold mE at q; omega)
  refine ⟨⟨u, L, by omega⟩, ⟨h3.1.xf g (fun a q => by unfold mE at q; omega), h3.2.xf g (fun a q => by unfold mE at q; omega)⟩, h4.gw g.ga (by have := F.len; omega), ?_, ?_⟩
  · rw [(g.2.2 _ (ne C.2.1 (by omega))).1, (g.2.2 _ (ne C.2.2.1 (by omega))).1, (g.2.2 _ (ne C.2.2.2 (by omega))).1]
    exact ⟨h5, h6, h7⟩
  · rw [(g.2.2 84 (ne 84 (by omega))).1]
    exact h8
theorem MeS.keep (h : MeS S σ) (e4 : τ.i 84 4 = σ.i 84 4) (e16 : τ.i 83 16 = σ.i 83 16) (e18 : τ.i 83 18 = σ.i 83 18) (e96 : τ.i 96 = σ.i 96) (e97 : τ.i 97 = σ.i 97) : MeS S τ := by
  unfold MeS
  rw [e4, e16, e18, e96, e97]
  exact h
theorem MeS.st {s' : Nat} (h : MeS S σ) : MeS (s', S.2) σ := h
/-- the machine moves -/
theorem McA.mv {P' dp' : Nat} {lt' : Int32} {on' : List Nat} {stk' : List Int64} (A : McA C W wy a0 ch U f fuel V S k P dp lt on stk tn j σ) (g : XF mE σ τ) (e16 : τ.i 83 16 = σ.i 83 16) (e18 : τ.i 83 18 = σ.i 83 18) (e96 : τ.i 96 = σ.i 96) (e97 : τ.i 97 = σ.i 97) (h7 : τ.i 83 7 = Int32.ofNat P') (h14 : τ.i 83 14 = σ.i 83 14) (h6 : τ.i 83 6 = Int32.ofNat dp') (hd : dp' ≤ 24) (h8 : τ.i 83 8 = lt') (h9 : τ.i 83 9 = 0) (h11 : τ.i 83 11 = -1) (h10 : τ.l 83 10 = lyE on') (hl : LyW W on') (hs : StkS stk' τ) : McA C W wy a0 ch U f fuel V S k P' dp' lt' on' stk' tn j τ := by
  obtain ⟨a1, a2, ⟨a3, a4, a5⟩, a6⟩ := A
  have e84 : τ.i 84 = σ.i 84 := (g.2.2 84 (fun q => by unfold mE at q; omega)).1
  exact ⟨a1.xf g, a2.keep (by rw [e84]) e16 e18 e96 e97, ⟨h7, by rw [h14]; exact a4, ⟨h6, hd⟩, h8, h9, h11, h10, hl, hs⟩, a6⟩
theorem SkM.xf (g : SkM σ τ) : XF mE σ τ := g.1.mono (fun a q => by unfold mE; omega)
theorem McA.sk {stk' : List Int64} (A : McA C W wy a0 ch U f fuel V S k P dp lt on stk tn j σ) (g : SkM σ τ) (hs : StkS stk' τ) : McA C W wy a0 ch U f fuel V S k P dp lt on stk' tn j τ := by
  obtain ⟨-, -, ⟨a3, a4, ⟨a5, a5'⟩, a7, a8, a9, b1, b2, b3⟩, -⟩ := id A
  have e : ∀ j, j ≠ 5 → τ.i 83 j = σ.i 83 j := g.2.1
  have r : ∀ a, a ≠ 83 → a ≠ 93 → τ.i a = σ.i a := fun a q1 q2 => (g.1.2.2 a (by omega)).1
  exact A.mv g.xf (e 16 (by decide)) (e 18 (by decide)) (r 96 (by decide) (by decide)) (r 97 (by decide) (by decide)) ((e 7 (by decide)).trans a3) (e 14 (by decide)) ((e 6 (by decide)).trans a5) a5' ((e 8 (by decide)).trans a7) ((e 9 (by decide)).trans a8) ((e 11 (by decide)).trans a9) (by rw [g.2.2]; exact b1) b2 hs
/-- a word is written in the frames, or among what is given -/
theorem McA.fr (A : McA C W wy a0 ch U f fuel V S k P dp lt on stk tn j σ) (g : XF (fun a => a = 94 ∨ a = 95) σ τ) : McA C W wy a0 ch U f fuel V S k P dp lt on stk tn j τ := by
  obtain ⟨-, -, ⟨a3, a4, ⟨a5, a5'⟩, a7, a8, a9, b1, b2, b3⟩, -⟩ := id A
  have r : ∀ a, a ≠ 94 → a ≠ 95 → τ.i a = σ.i a ∧ τ.l a = σ.l a := fun a q1 q2 => g.2.2 a (by omega)
  have e := (r 83 (by decide) (by decide)).1
  refine A.mv (g.mono (fun a q => by unfold mE; omega)) (by rw [e]) (by rw [e]) (r 96 (by decide) (by decide)).1 (r 97 (by decide) (by decide)).1 (by rw [e]; exact a3) (by rw [e]) (by rw [e]; exact a5) a5' (by rw [e]; exact a7) (by rw [e]; exact a8) (by rw [e]; exact a9) (by rw [(r 83 (by decide) (by decide)).2]; exact b1) b2 ?_
  unfold StkS
  rw [e, (r 93 (by decide) (by decide)).2]
  exact b3
theorem McA.go {P' : Nat} {x : Int32} (A : McA C W wy a0 ch U f fuel V S k P dp lt on stk tn j σ) (hx : x = Int32.ofNat P') : McA C W wy a0 ch U f fuel V S k P' dp lt on stk tn j (σ.wi 83 7 x) := by
  obtain ⟨-, -, ⟨a3, a4, ⟨a5, a5'⟩, a7, a8, a9, b1, b2, b3⟩, -⟩ := id A
  refine A.mv ((XF.refl _ _).wi (Or.inl rfl)) (wi_ne (by decide)) (wi_ne (by decide)) (wi_row (by decide)) (wi_row (by decide)) (by rw [wi_at, hx]) (wi_ne (by decide)) ((wi_ne (by decide)).trans a5) a5' ((wi_ne (by decide)).trans a7) ((wi_ne (by decide)).trans a8) ((wi_ne (by decide)).trans a9) b1 b2 ?_
  exact ⟨⟨(wi_ne (by decide)).trans b3.1.1, b3.1.2⟩, b3.2⟩
theorem McA.ly {on' : List Nat} {x : Int64} (A : McA C W wy a0 ch U f fuel V S k P dp lt on stk tn j σ) (hx : x = lyE on') (hl : LyW W on') : McA C W wy a0 ch U f fuel V S k P dp lt on' stk tn j (σ.wl 83 10 x) := by
  obtain ⟨-, -, ⟨a3, a4, ⟨a5, a5'⟩, a7, a8, a9, b1, b2, b3⟩, -⟩ := id A
  refine A.mv ((XF.refl _ _).wl (Or.inl rfl)) rfl rfl rfl rfl a3 rfl a5 a5' a7 a8 a9 (by rw [wl_eq, hx]) hl ⟨b3.1, fun i y hy => ?_⟩
  rw [wl_ne (by omega)]
  exact b3.2 i y hy
/-- a turn less is left -/
theorem McA.tk (A : McA C W wy a0 ch U f fuel V S k P dp lt on stk tn (j + 1) σ) : McA C W wy a0 ch U f fuel V S k P dp lt on stk (tn + 1) j σ := by
  obtain ⟨a1, a2, a3, a4, a5, a6⟩ := A
  exact ⟨a1, a2, a3, a4, by omega, by omega⟩
theorem McA.less {j' : Nat} (A : McA C W wy a0 ch U f fuel V S k P dp lt on stk tn j σ) (h : j' ≤ j) : McA C W wy a0 ch U f fuel V S k P dp lt on stk tn j' σ := by
  obtain ⟨a1, a2, a3, a4, a5, a6⟩ := A
  exact ⟨a1, a2, a3, a4, a5, by omega⟩
/-- frames -/
theorem MFr.mono {hm' : Nat} {N' : Nat → Prop} (h : MFr hm N V V' σ τ) (h1 : hm' ≤ hm) (h2 : ∀ j, N' j → N j) : MFr hm' N' V V' σ τ := ⟨h.1, h.2.1, ⟨fun j q => h.2.2.1.1 j (by omega), fun j q => h.2.2.1.2 j (by omega)⟩, fun j q => h.2.2.2.1 j (h2 j q), h.2.2.2.2⟩
theorem MFr.tr (h : MFr hm N V V' σ τ) (g : MFr hm N V' V2 τ υ) : MFr hm N V V2 σ υ := by
  obtain ⟨h1, h2, ⟨h3, h3'⟩, h94, h4, h5, h6, h7, h8⟩ := h
  obtain ⟨g1, g2, ⟨g3, g3'⟩, g94, g4, g5, g6, g7, g8⟩ := g
  have hl := h1.len
  refine ⟨h1.tr g1 (fun a ha q => ?_), fun j q1 q2 => (g2 j q1 q2).trans (h2 j q1 q2), ⟨fun j q => (g3 j q).trans (h3 j q), fun j q => ⟨(g3' j q).1.trans (h3' j q).1, (g3' j q).2.1.trans (h3' j q).2.1, (g3' j q).2.2.trans (h3' j q).2.2⟩⟩, fun j q => (g94 j q).trans (h94 j q), h4.tr g4, by omega, by omega, by omega, by omega⟩
  unfold seE neE at q ⊢
  omega
theorem XF.mf (hm : Nat) (V : Nat × Nat × Nat × Nat) (h : XF mE σ τ) (h94 : ∀ j, N j → τ.l 94 j = σ.l 94 j) : MFr hm N V V σ τ := by
  have r : ∀ a, 84 ≤ a → a ≤ 92 → τ.i a = σ.i a := fun a q1 q2 => (h.2.2 a (fun q => by unfold mE at q; omega)).1
  refine ⟨h.ga.mono (fun a _ q => Or.inr (Or.inr (by unfold mE at q; omega))), fun j _ _ => by rw [r 84 (by decide) (by decide)], ⟨fun j _ => by rw [r 85 (by decide) (by decide)], fun j _ => ⟨by rw [r 86 (by decide) (by decide)], by rw [r 87 (by decide) (by decide)], by rw [r 88 (by decide) (by decide)]⟩⟩, h94, SzH.refl h.1 (h.2.2 46 (fun q => by unfold mE at q; omega)).1, Or.inl rfl, Or.inl rfl, Or.inl rfl, Or.inl (sqA_g (by rw [h.2.1]))⟩
theorem MFr.refl (hm : Nat) (N : Nat → Prop) (V : Nat × Nat × Nat × Nat) (σ : Sg) : MFr hm N V V σ σ := (XF.refl mE σ).mf hm V (fun _ _ => rfl)
theorem SkM.mf (hm : Nat) (N : Nat → Prop) (V : Nat × Nat × Nat × Nat) (h : SkM σ τ) : MFr hm N V V σ τ := h.xf.mf hm V (fun j _ => by rw [(h.1.2.2 94 (by omega)).2])
theorem ChF.mf {H : Nat} (N : Nat → Prop) (h : ChF H V V' σ τ) (A : SeA σ V) (F : FX ΦC σ.sh σ.r) (st : sqA σ = 47 ∨ 102 ≤ sqA σ) : MFr H N V V' σ τ := by
  obtain ⟨h1, h2, ⟨h3, h3'⟩, h4⟩ := h
  obtain ⟨-, -, -, -, p8, p9, p10, -⟩ := A
  have := F.len
  refine ⟨h1.mono (fun a _ q => q.elim Or.inl (fun q => Or.inr (q.elim Or.inl (fun q => Or.inr (by omega))))), h2, ⟨fun j q => h3 j (Or.inl q), fun j q => h3' j (Or.inl q)⟩, fun j _ => ?_, h4⟩
  rw [(h1.2.2 94 (by omega) (fun q => by unfold seE neE at q; omega)).2]
end MACH

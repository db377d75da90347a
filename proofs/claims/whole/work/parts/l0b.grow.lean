/-! THE CLASS: frames with growth -/
/-- a frame with growth -/
def GwF (E : Nat → Prop) (σ τ : Sg) : Prop := (∃ dyn, τ.sh = σ.sh ++ dyn) ∧ (∀ a k, a < σ.sh.length → ¬ (a = 56 ∧ 8 ≤ k ∧ k ≤ 10) → τ.r a k = σ.r a k) ∧ ∀ a, a < σ.sh.length → ¬ E a → τ.i a = σ.i a ∧ τ.l a = σ.l a
section GROW
variable {E E' : Nat → Prop} {σ τ υ : Sg}
theorem GwF.refl (E : Nat → Prop) (σ : Sg) : GwF E σ σ := ⟨⟨[], (List.append_nil _).symm⟩, fun _ _ _ _ => rfl, fun _ _ _ => ⟨rfl, rfl⟩⟩
theorem GwF.len (h : GwF E σ τ) : σ.sh.length ≤ τ.sh.length := by
  obtain ⟨dyn, e⟩ := h.1
  rw [e, List.length_append]
  omega
theorem GwF.tr (h : GwF E σ τ) (g : GwF E' τ υ) (he : ∀ a, a < σ.sh.length → E' a → E a) : GwF E σ υ := by
  have hl := h.len
  obtain ⟨⟨d1, e1⟩, h2, h3⟩ := h
  obtain ⟨⟨d2, e2⟩, g2, g3⟩ := g
  refine ⟨⟨d1 ++ d2, by rw [e2, e1, List.append_assoc]⟩, fun a k ha q => (g2 a k (by omega) q).trans (h2 a k ha q), fun a ha q => ?_⟩
  have x1 := h3 a ha q
  have x2 := g3 a (by omega) (fun z => q (he a ha z))
  exact ⟨x2.1.trans x1.1, x2.2.trans x1.2⟩
theorem GwF.mono (h : GwF E σ τ) (g : ∀ a, a < σ.sh.length → E a → E' a) : GwF E' σ τ := ⟨h.1, h.2.1, fun a ha q => h.2.2 a ha (fun z => q (g a ha z))⟩
theorem GwF.sh (h : GwF E σ τ) {a : Nat} {s : Sh} (q : σ.sh[a]? = some s) : τ.sh[a]? = some s := by
  obtain ⟨dyn, e⟩ := h.1
  rw [e, List.getElem?_append_left (List.getElem?_eq_some_iff.mp q).1]
  exact q
theorem XF.gf (h : XF E σ τ) : GwF E σ τ := ⟨⟨[], by rw [h.1, List.append_nil]⟩, fun a k _ _ => by rw [h.2.1], fun a _ q => h.2.2 a q⟩
theorem cst_lt {a k : Nat} (h : ΦC.cst a k = true) : a < 102 := by
  have : a < sh0C.length := Classical.byContradiction fun q => by
    have e : sh0C[a]? = none := List.getElem?_eq_none (by omega)
    have h : cstC a k = true := h
    unfold cstC at h
    rw [e] at h
    cases h
  exact this
theorem GwF.fx (h : GwF E σ τ) (F : FX ΦC σ.sh σ.r) : FX ΦC τ.sh τ.r := by
  have l100 : 101 < σ.sh.length := (List.getElem?_eq_some_iff.mp (F.s (a := 101) t0_101)).1
  obtain ⟨⟨dyn, e⟩, h2, -⟩ := h
  obtain ⟨⟨t, et⟩, F2⟩ := F
  refine ⟨⟨t ++ dyn, by rw [e, et, List.append_assoc]⟩, fun a k q => ?_⟩
  rw [h2 a k (by have := cst_lt q; omega) (fun z => by
    obtain ⟨rfl, z1, z2⟩ := z
    have : k = 8 ∨ k = 9 ∨ k = 10 := by omega
    rcases this with rfl | rfl | rfl <;> exact absurd q (by decide))]
  exact F2 a k q
end GROW
/-- a frame with growth: what nearness keeps may be laid anew -/
def GnF (E : Nat → Prop) (σ τ : Sg) : Prop := (∃ dyn, τ.sh = σ.sh ++ dyn) ∧ (∀ a k, a < σ.sh.length → ¬ (a = 46 ∧ k = 3) → τ.r a k = σ.r a k) ∧ ∀ a, a < σ.sh.length → ¬ E a → τ.i a = σ.i a ∧ τ.l a = σ.l a
section GNF
variable {E E' : Nat → Prop} {σ τ υ : Sg}
theorem GnF.refl (E : Nat → Prop) (σ : Sg) : GnF E σ σ := ⟨⟨[], (List.append_nil _).symm⟩, fun _ _ _ _ => rfl, fun _ _ _ => ⟨rfl, rfl⟩⟩
theorem GnF.len (h : GnF E σ τ) : σ.sh.length ≤ τ.sh.length := by
  obtain ⟨dyn, e⟩ := h.1
  rw [e, List.length_append]
  omega
theorem GnF.tr (h : GnF E σ τ) (g : GnF E' τ υ) (he : ∀ a, a < σ.sh.length → E' a → E a) : GnF E σ υ := by
  have hl := h.len
  obtain ⟨⟨d1, e1⟩, h2, h3⟩ := h
  obtain ⟨⟨d2, e2⟩, g2, g3⟩ := g
  refine ⟨⟨d1 ++ d2, by rw [e2, e1, List.append_assoc]⟩, fun a k ha q => (g2 a k (by omega) q).trans (h2 a k ha q), fun a ha q => ?_⟩
  have x1 := h3 a ha q
  have x2 := g3 a (by omega) (fun z => q (he a ha z))
  exact ⟨x2.1.trans x1.1, x2.2.trans x1.2⟩
theorem GnF.mono (h : GnF E σ τ) (g : ∀ a, a < σ.sh.length → E a → E' a) : GnF E' σ τ := ⟨h.1, h.2.1, fun a ha q => h.2.2 a ha (fun z => q (g a ha z))⟩
theorem GnF.sh (h : GnF E σ τ) {a : Nat} {s : Sh} (q : σ.sh[a]? = some s) : τ.sh[a]? = some s := by
  obtain ⟨dyn, e⟩ := h.1
  rw [e, List.getElem?_append_left (List.getElem?_eq_some_iff.mp q).1]
  exact q
theorem GnF.fx (h : GnF E σ τ) (F : FX ΦC σ.sh σ.r) : FX ΦC τ.sh τ.r := by
  have l100 : 101 < σ.sh.length := (List.getElem?_eq_some_iff.mp (F.s (a := 101) t0_101)).1
  obtain ⟨⟨dyn, e⟩, h2, -⟩ := h
  obtain ⟨⟨t, et⟩, F2⟩ := F
  refine ⟨⟨t ++ dyn, by rw [e, et, List.append_assoc]⟩, fun a k q => ?_⟩
  rw [h2 a k (by have := cst_lt q; omega) (fun z => by
    obtain ⟨rfl, rfl⟩ := z
    exact absurd q (by decide))]
  exact F2 a k q
end GNF
/-- a frame with growth: both -/
def GaF (E : Nat → Prop) (σ τ : Sg) : Prop := (∃ dyn, τ.sh = σ.sh ++ dyn) ∧ (∀ a k, a < σ.sh.length → ¬ ((a = 46 ∧ k = 3) ∨ (a = 56 ∧ 8 ≤ k ∧ k ≤ 10)) → τ.r a k = σ.r a k) ∧ ∀ a, a < σ.sh.length → ¬ E a → τ.i a = σ.i a ∧ τ.l a = σ.l a
section GAF
variable {E E' : Nat → Prop} {σ τ υ : Sg}
theorem GaF.refl (E : Nat → Prop) (σ : Sg) : GaF E σ σ := ⟨⟨[], (List.append_nil _).symm⟩, fun _ _ _ _ => rfl, fun _ _ _ => ⟨rfl, rfl⟩⟩
theorem GaF.len (h : GaF E σ τ) : σ.sh.length ≤ τ.sh.length := by
  obtain ⟨dyn, e⟩ := h.1
  rw [e, List.length_append]
  omega
theorem GaF.tr (h : GaF E σ τ) (g : GaF E' τ υ) (he : ∀ a, a < σ.sh.length → E' a → E a) : GaF E σ υ := by
  have hl := h.len
  obtain ⟨⟨d1, e1⟩, h2, h3⟩ := h
  obtain ⟨⟨d2, e2⟩, g2, g3⟩ := g
  refine ⟨⟨d1 ++ d2, by rw [e2, e1, List.append_assoc]⟩, fun a k ha q => (g2 a k (by omega) q).trans (h2 a k ha q), fun a ha q => ?_⟩
  have x1 := h3 a ha q
  have x2 := g3 a (by omega) (fun z => q (he a ha z))
  exact ⟨x2.1.trans x1.1, x2.2.trans x1.2⟩
theorem GaF.mono (h : GaF E σ τ) (g : ∀ a, a < σ.sh.length → E a → E' a) : GaF E' σ τ := ⟨h.1, h.2.1, fun a ha q => h.2.2 a ha (fun z => q (g a ha z))⟩
theorem GaF.sh (h : GaF E σ τ) {a : Nat} {s : Sh} (q : σ.sh[a]? = some s) : τ.sh[a]? = some s := by
  obtain ⟨dyn, e⟩ := h.1
  rw [e, List.getElem?_append_left (List.getElem?_eq_some_iff.mp q).1]
  exact q
theorem GaF.fx (h : GaF E σ τ) (F : FX ΦC σ.sh σ.r) : FX ΦC τ.sh τ.r := by
  have l100 : 101 < σ.sh.length := (List.getElem?_eq_some_iff.mp (F.s (a := 101) t0_101)).1
  obtain ⟨⟨dyn, e⟩, h2, -⟩ := h
  obtain ⟨⟨t, et⟩, F2⟩ := F
  refine ⟨⟨t ++ dyn, by rw [e, et, List.append_assoc]⟩, fun a k q => ?_⟩
  rw [h2 a k (by have := cst_lt q; omega) (fun z => by
    rcases z with ⟨rfl, rfl⟩ | ⟨rfl, z1, z2⟩
    · exact absurd q (by decide)
    · have : k = 8 ∨ k = 9 ∨ k = 10 := by omega
      rcases this with rfl | rfl | rfl <;> exact absurd q (by decide))]
  exact F2 a k q
end GAF
section GRMIX
variable {E : Nat → Prop} {σ τ υ : Sg}
theorem XF.gn (h : XF E σ τ) : GnF E σ τ := ⟨⟨[], by rw [h.1, List.append_nil]⟩, fun a k _ _ => by rw [h.2.1], fun a _ q => h.2.2 a q⟩
theorem XF.ga (h : XF E σ τ) : GaF E σ τ := ⟨⟨[], by rw [h.1, List.append_nil]⟩, fun a k _ _ => by rw [h.2.1], fun a _ q => h.2.2 a q⟩
theorem GwF.ga (h : GwF E σ τ) : GaF E σ τ := ⟨h.1, fun a k ha q => h.2.1 a k ha (fun z => q (Or.inr z)), h.2.2⟩
theorem GnF.ga (h : GnF E σ τ) : GaF E σ τ := ⟨h.1, fun a k ha q => h.2.1 a k ha (fun z => q (Or.inl z)), h.2.2⟩
/-- where nearness keeps what is settled, and the room of it -/
def sqA (σ : Sg) : Nat := match σ.r 46 3 with
  | some (.inl a) => a
  | _ => 0
def sdN (σ : Sg) : Nat := (σ.i 46 2).toNatClampNeg * (σ.i 46 2).toNatClampNeg
theorem sqA_e {a : Nat} (h : σ.r 46 3 = Rf.ptr a) : sqA σ = a := by
  unfold sqA
  rw [h]
theorem sqA_g (h : τ.r 46 3 = σ.r 46 3) : sqA τ = sqA σ := by
  unfold sqA
  rw [h]
theorem sdN_g (h : τ.i 46 = σ.i 46) : sdN τ = sdN σ := by
  unfold sdN
  rw [h]
/-- how the room may grow, by sets and by what is settled -/
def SzH (σ τ : Sg) (R R' : Nat) : Prop := szS τ.sh + 6 * R + 2 * sdN σ ≤ szS σ.sh + 6 * R' + 2 * sdN τ ∧ 21 * τ.sh.length + R + sdN σ ≤ 21 * σ.sh.length + R' + sdN τ ∧ R ≤ R' ∧ sdN σ ≤ sdN τ
theorem SzH.tr {R R' R2 : Nat} (h : SzH σ τ R R') (g : SzH τ υ R' R2) : SzH σ υ R R2 := by
  unfold SzH at *
  omega
theorem SzH.refl {R : Nat} (h : τ.sh = σ.sh) (g : τ.i 46 = σ.i 46) : SzH σ τ R R := by
  unfold SzH
  rw [h, sdN_g g]
  omega
theorem SzH.any {R R' : Nat} (h : SzH σ τ R R) : SzH σ τ R' R' := by
  unfold SzH at *
  omega
end GRMIX

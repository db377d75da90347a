/-! THE REFERENCE RUNS: results, going on -/
/-- small writes -/
def SmW (σ τ : Sg) : Prop := τ.sh = σ.sh ∧ (∀ a, ¬ (2136 ≤ a ∧ a ≤ 2183) → τ.r a = σ.r a) ∧ (∀ a, a ≠ 0 → ¬ (2134 ≤ a ∧ a ≤ 2183) → τ.i a = σ.i a) ∧ (∀ k, (4 ≤ k ∧ k ≤ 7) ∨ k = 41 ∨ (81 ≤ k ∧ k ≤ 83) → τ.i 0 k = σ.i 0 k) ∧ ∀ a, a ≠ 0 → ¬ (2136 ≤ a ∧ a ≤ 2183) → τ.l a = σ.l a
theorem wi_eq {σ : Sg} {a k : Nat} {v : Int32} : (σ.wi a k v).i a k = v := by rw [wi_i, if_pos ⟨rfl, rfl⟩]
theorem wl_eq {σ : Sg} {a k : Nat} {v : Int64} : (σ.wl a k v).l a k = v := by rw [wl_l, if_pos ⟨rfl, rfl⟩]
theorem wl_ne {σ : Sg} {a k b j : Nat} {v : Int64} (h : ¬ (b = a ∧ j = k)) : (σ.wl a k v).l b j = σ.l b j := by rw [wl_l, if_neg h]
section SMW
variable {W : Wld} {lst : List Nat} {b wy ch fuel dp cn nv : Nat} {on : List Nat} {S : Es} {vs : List Int64} {σ τ υ : Sg}
theorem SmW.refl (σ : Sg) : SmW σ σ := ⟨rfl, fun _ _ => rfl, fun _ _ _ => rfl, fun _ _ => rfl, fun _ _ _ => rfl⟩
theorem SmW.tr (h : SmW σ τ) (g : SmW τ υ) : SmW σ υ := ⟨g.1.trans h.1, fun a q => (g.2.1 a q).trans (h.2.1 a q), fun a q q' => (g.2.2.1 a q q').trans (h.2.2.1 a q q'), fun a q => (g.2.2.2.1 a q).trans (h.2.2.2.1 a q), fun a q q' => (g.2.2.2.2 a q q').trans (h.2.2.2.2 a q q')⟩
theorem SmW.wi0 {k : Nat} {v : Int32} (h : ¬ ((4 ≤ k ∧ k ≤ 7) ∨ k = 41 ∨ (81 ≤ k ∧ k ≤ 83))) : SmW σ (σ.wi 0 k v) := ⟨rfl, fun _ _ => rfl, fun a q _ => funext fun y => wi_ne (fun z => q z.1), fun x q => wi_ne (fun z => h (z.2 ▸ q)), fun _ _ _ => rfl⟩
theorem SmW.wi {a k : Nat} {v : Int32} (h : 2134 ≤ a ∧ a ≤ 2183) : SmW σ (σ.wi a k v) := ⟨rfl, fun _ _ => rfl, fun x q q' => funext fun y => wi_ne (fun z => q' (z.1 ▸ h)), fun x q => wi_ne (fun z => by omega), fun _ _ _ => rfl⟩
theorem SmW.wl {a k : Nat} {v : Int64} (h : a = 0 ∨ (2136 ≤ a ∧ a ≤ 2183)) : SmW σ (σ.wl a k v) := ⟨rfl, fun _ _ => rfl, fun _ _ _ => rfl, fun _ _ => rfl, fun x q q' => funext fun y => by rw [wl_l, if_neg (fun z => by omega)]⟩
theorem SmW.wr {a k : Nat} {v : Rf} (h : 2136 ≤ a ∧ a ≤ 2183) : SmW σ (σ.wr a k v) := ⟨rfl, fun x q => funext fun y => by rw [wr_r, if_neg (fun z => by omega)], fun _ _ _ => rfl, fun _ _ => rfl, fun _ _ _ => rfl⟩
theorem NwS.sm (h : NwS W lst b wy σ) (g : SmW σ τ) (hF : FX ΦR τ.sh τ.r) : NwS W lst b wy τ := by
  obtain ⟨h1, h2, ⟨h3, h3'⟩, h4, h5, h6, h7⟩ := h
  obtain ⟨g1, g2, g3, g4, g5⟩ := g
  have hk := h2.1.2.1
  have hc := h2.2.1.2.1
  have hl := h2.2.2.2.1
  refine ⟨hF, h2.keep (fun a ha => g3 a (by omega) (by omega)) (g4 4 (by decide)) (g4 5 (by decide)) (g4 7 (by decide)), ⟨(g4 6 (by decide)).trans h3, h3'⟩, fun j x hx => ?_, fun a b ha hb => ?_, ⟨(g4 83 (by decide)).trans h6, h7⟩⟩
  · have hj := (List.getElem?_eq_some_iff.mp hx).1
    refine (h4 j x hx).mono (fun _ _ z => z) (fun a a1 a2 => g3 a (by omega) (by omega)) (g2 _ (by omega)) (fun y hy hys => ?_)
    have := nd_ge h1 hys
    exact ⟨hy, by rw [g1]; exact hys, g3 y (by omega) (by omega), g5 y (by omega) (by omega), g2 y (by omega)⟩
  · rw [g3 _ (by omega) (by omega)]
    exact h5 a b ha hb
theorem WrS.sm (h : WrS W lst b wy ch fuel σ) (g : SmW σ τ) (hF : FX ΦR τ.sh τ.r) : WrS W lst b wy ch fuel τ := by
  obtain ⟨h1, h2, h3, h4, ⟨h5, h5'⟩, h6, h6'⟩ := h
  have hk := h1.2.1.1.2.1
  have hc := h1.2.1.2.1.2.1
  have g' := g
  obtain ⟨g1, g2, g3, g4, g5⟩ := g
  exact ⟨h1.sm g' hF, h2.mono (by omega) (by omega) (fun a a1 a2 a3 => ⟨g3 a (by omega) (by omega), g5 a (by omega) (by omega)⟩) (g4 41 (by decide)), h3.same (g3 _ (by decide) (by decide)) (g3 _ (by decide) (by decide)), h4.same (g3 _ (by decide) (by decide)), ⟨(g4 81 (by decide)).trans h5, h5'⟩, ⟨(g4 82 (by decide)).trans h6, h6'⟩⟩
theorem WrS.wk (h : WrS W lst b wy ch fuel σ) : WkS W σ := ⟨h.1.1, h.1.2.1, h.2.1, h.1.2.2.1.2⟩
/-- what is counted, in the heap -/
theorem RnS.keep {S' : Es} (h : RnS dp cn on S σ) (h87 : τ.i 0 87 = σ.i 0 87) (h70 : τ.i 0 70 = σ.i 0 70) (h68 : τ.l 0 68 = σ.l 0 68) (h80 : τ.i 0 80 = Int32.ofNat S'.1) (h84 : τ.i 0 84 = Int32.ofNat S'.2.1) (hr : S'.2.2 = S.2.2) (h85 : τ.i 0 85 = σ.i 0 85) (h86 : τ.i 0 86 = σ.i 0 86) (e1 : τ.i 2134 = σ.i 2134) (e2 : τ.i 2135 = σ.i 2135) : RnS dp cn on S' τ := by
  obtain ⟨⟨a1, a2⟩, ⟨a3, a4⟩, ⟨a5, a6⟩, a7, a8, ⟨a9, b1, b2⟩, b3, b4, b5⟩ := h
  unfold RnS
  rw [hr, h87, h70, h68, h85, h86, e1, e2]
  exact ⟨⟨a1, a2⟩, ⟨a3, a4⟩, ⟨a5, a6⟩, h80, h84, ⟨a9, b1, b2⟩, b3, b4, b5⟩
end SMW
/-- how the run comes to an end -/
def rsX : Rs → ab_RX
  | .inl v => .inl (some (.long v))
  | .inr (.inl _) => .inr ("DispatchHouseModel$Failed", 2132)
  | .inr (.inr _) => .inr ("DispatchHouseModel$Ended", 2133)
def rsG (W : Wld) : Rs → Es → Sg → Prop
  | .inl v, S, _ => VlG W v ∧ S.2.2.2.1 ≤ S.1
  | .inr (.inl v), S, τ => (VlG W v ∧ τ.l 0 78 = v) ∧ S.2.2.2.1 ≤ S.1
  | .inr (.inr h), S, τ => (τ.i 0 79 = Int32.ofNat h ∧ (h = 4 ∨ h = 5)) ∧ S.2.2.2.1 ≤ S.1 + 1
def EvT (W : Wld) (lst : List Nat) (b wy ch fuel dp cn nv : Nat) (on : List Nat) (σ τ : Sg) (r : Rs × Es) : Prop := EvF dp cn nv σ τ ∧ WrS W lst b wy ch fuel τ ∧ RnS dp cn on r.2 τ ∧ r.2.1 ≤ fuel ∧ rsG W r.1 r.2 τ
def EvK (W : Wld) (lst : List Nat) (b wy ch fuel dp cn nv : Nat) (on : List Nat) (σ : Sg) (r : Rs × Es) (K : kS) : Prop := ∀ τ, EvT W lst b wy ch fuel dp cn nv on σ τ r → K (rsX r.1) τ
/-- a run at rest: the world, what is counted, the variables -/
def EvA (W : Wld) (lst : List Nat) (b wy ch fuel dp cn : Nat) (Fr : Sg → Prop) (on : List Nat) (vs : List Int64) (S : Es) (σ : Sg) : Prop := WrS W lst b wy ch fuel σ ∧ RnS dp cn on S σ ∧ VaS W dp vs σ ∧ Fr σ ∧ S.1 ≤ fuel
section EVK
variable {Z : zT} {d : Nat} {W : Wld} {lst : List Nat} {b wy ch fuel dp cn nv : Nat} {on : List Nat} {S : Es} {vs : List Int64} {σ τ υ : Sg} {K : kS} {Fr : Sg → Prop}
theorem EvA.fx (h : EvA W lst b wy ch fuel dp cn Fr on vs S σ) : FX ΦR σ.sh σ.r := h.1.1.1
theorem EvK.fr {r : Rs × Es} (h : EvK W lst b wy ch fuel dp cn nv on σ r K) (g : EvF dp cn nv σ τ) : EvK W lst b wy ch fuel dp cn nv on τ r K := fun υ ⟨q1, q2⟩ => h υ ⟨g.tr q1, q2⟩
theorem EvK.more {nv' : Nat} {r : Rs × Es} (h : EvK W lst b wy ch fuel dp cn nv on σ r K) (hn : nv ≤ nv') : EvK W lst b wy ch fuel dp cn nv' on σ r K := fun υ ⟨q1, q2⟩ => h υ ⟨q1.more hn, q2⟩
theorem EvT.a {r : Rs × Es} (h : EvT W lst b wy ch fuel dp cn nv on σ τ r) (g : EvA W lst b wy ch fuel dp cn Fr on vs S σ) (hFr : ∀ nv σ τ, EvF dp cn nv σ τ → Fr σ → Fr τ) (hn : vs.length ≤ nv) : EvA W lst b wy ch fuel dp cn Fr on vs r.2 τ := ⟨h.2.1, h.2.2.1, g.2.2.1.ev h.1 hn (by have := g.2.1.1.2; omega), hFr _ _ _ h.1 g.2.2.2.1, h.2.2.2.1⟩
/-- a value comes back -/
theorem EvK.vl {v : Int64} (h : EvK W lst b wy ch fuel dp cn nv on σ (.inl v, S) K) (g : EvF dp cn nv σ τ) (hw : WrS W lst b wy ch fuel τ) (hr : RnS dp cn on S τ) (hs : S.1 ≤ fuel) (hv : VlG W v) (hb : S.2.2.2.1 ≤ S.1) : K (.inl (some (.long v))) τ := h τ ⟨g, hw, hr, hs, hv, hb⟩
theorem EvK.fa {v : Int64} (h : EvK W lst b wy ch fuel dp cn nv on σ (.inr (.inl v), S) K) (g : EvF dp cn nv σ τ) (hw : WrS W lst b wy ch fuel τ) (hr : RnS dp cn on S τ) (hs : S.1 ≤ fuel) (hv : VlG W v) (hl : τ.l 0 78 = v) (hb : S.2.2.2.1 ≤ S.1) : K (.inr ("DispatchHouseModel$Failed", 2132)) τ := h τ ⟨g, hw, hr, hs, ⟨hv, hl⟩, hb⟩
theorem EvK.tl {r : Rs × Es} (h : EvK W lst b wy ch fuel dp cn nv on σ r K) : EvK W lst b wy ch fuel dp cn nv on σ r (yL K fun v τ => K (.inl (some (.long v))) τ) := fun τ q => by
  have := h τ q
  rcases r with ⟨v | v | v, S⟩ <;> exact this
/-- one run, then another -/
theorem EvK.bn {r : Rs × Es} {f : Int64 → Es → Rs × Es} {C : Int64 → Sg → Prop} (h : EvK W lst b wy ch fuel dp cn nv on σ (bnR r f) K) (hc : ∀ v S τ, EvT W lst b wy ch fuel dp cn nv on σ τ (.inl v, S) → EvK W lst b wy ch fuel dp cn nv on τ (f v S) K → C v τ) : EvK W lst b wy ch fuel dp cn nv on σ r (yL K C) := fun τ q => by
  rcases r with ⟨v | v | v, S⟩
  · exact hc v S τ q (fun υ z => h υ ⟨q.1.tr z.1, z.2⟩)
  · exact h τ q
  · exact h τ q
/-- a step -/
theorem EvK.st {f : Es → Rs × Es} {C : Sg → Prop} (A : EvA W lst b wy ch fuel dp cn Fr on vs S σ) (hFr : ∀ nv σ τ, EvF dp cn nv σ τ → Fr σ → Fr τ) (hn : vs.length ≤ nv) (hb : S.2.2.2.1 ≤ S.1 + 1) (h : EvK W lst b wy ch fuel dp cn nv on σ (stR fuel S f) K) (hc : S.1 ≠ fuel → ∀ τ, EvF dp cn nv σ τ → EvA W lst b wy ch fuel dp cn Fr on vs (S.1 + 1, S.2) τ → EvK W lst b wy ch fuel dp cn nv on τ (f (S.1 + 1, S.2)) K → C τ) : B_X23_step_0 Z (d + 2) σ (yN K C) := by
  obtain ⟨a1, a2, a3, a4, a5⟩ := A
  have hd := a2.1.2
  refine rf_step a1.1.1 a2.2.2.2.1 a1.2.2.2.2.1.1 a5 a1.2.2.2.2.1.2 (fun q => ?_) (fun q => ?_)
  · have g : EvF dp cn nv σ (σ.wi 0 80 (Int32.ofNat (S.1 + 1))) := EvF.wi (by unfold evE; omega)
    have e : stR fuel S f = f (S.1 + 1, S.2) := if_neg q
    rw [e] at h
    refine hc q _ g ⟨a1.sm (SmW.wi0 (by decide)) a1.1.1, a2.keep (wi_ne (by decide)) (wi_ne (by decide)) rfl wi_eq ((wi_ne (by decide)).trans a2.2.2.2.2.1) rfl (wi_ne (by decide)) (wi_ne (by decide)) (funext fun y => wi_ne (by omega)) (funext fun y => wi_ne (by omega)), a3.ev g hn (by omega), hFr _ _ _ g a4, by show S.1 + 1 ≤ fuel; omega⟩ (h.fr g)
  · have g : EvF dp cn nv σ (σ.wi 0 79 4) := EvF.wi (by unfold evE; omega)
    have e : stR fuel S f = (.inr (.inr 4), S) := if_pos q
    rw [e] at h
    exact h _ ⟨g, a1.sm (SmW.wi0 (by decide)) a1.1.1, a2.keep (wi_ne (by decide)) (wi_ne (by decide)) rfl ((wi_ne (by decide)).trans a2.2.2.2.1) ((wi_ne (by decide)).trans a2.2.2.2.2.1) rfl (wi_ne (by decide)) (wi_ne (by decide)) (funext fun y => wi_ne (by omega)) (funext fun y => wi_ne (by omega)), a5, ⟨wi_eq, Or.inl rfl⟩, hb⟩
/-- a fault -/
theorem EvK.flt {n : Int32} (A : EvA W lst b wy ch fuel dp cn Fr on vs S σ) (hb : S.2.2.2.1 ≤ S.1) (h2 : 2 ∈ mkW W.1) (h : EvK W lst b wy ch fuel dp cn nv on σ (faR n S) K) : B_X23_fault_0 Z (d + 2) σ n (yR K fun v τ => ∃ x, aT τ v x ∧ K (.inr (x, v)) τ) := by
  obtain ⟨a1, a2, a3, a4, a5⟩ := A
  refine rf_fault a1.1.1 ?_
  have g : EvF dp cn nv σ (σ.wl 0 78 (vlX 2 n)) := EvF.wl (by unfold evL; omega)
  exact EvK.fa h g (a1.sm (SmW.wl (Or.inl rfl)) a1.1.1) (a2.keep rfl rfl (by rw [wl_l, if_neg (by decide)]) a2.2.2.2.1 a2.2.2.2.2.1 rfl rfl rfl rfl rfl) a5 ⟨2, n, rfl, h2⟩ (by rw [wl_l, if_pos ⟨rfl, rfl⟩]) hb
end EVK

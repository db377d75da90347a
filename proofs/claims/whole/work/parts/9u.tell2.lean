/-! THE REFERENCE: what a text that was read leaves of the rest -/
def TG (k0 c0 l0 m0 : Nat) (σ τ : Sg) (lst lst' : List Nat) (W : Nat → Prop) : Prop :=
  (∀ (a : Nat) s, σ.sh[a]? = some s → τ.sh[a]? = some s) ∧ (∃ more, lst' = lst ++ more ∧ ∀ v ∈ more, σ.sh.length ≤ v) ∧
  (∀ a, a < σ.sh.length → ¬ txA k0 c0 l0 m0 a → (∀ i : Nat, lst[i]? = some a → ¬ W i) → τ.i a = σ.i a ∧ τ.l a = σ.l a ∧ (σ.r 6 1 ≠ Rf.ptr a → τ.r a = σ.r a)) ∧
  (∀ k, ¬ rdK k → k ≠ 33 → ¬ (4 ≤ k ∧ k ≤ 7) → τ.i 0 k = σ.i 0 k) ∧ τ.l 0 = σ.l 0 ∧ (∀ k, k ≠ 25 → k ≠ 34 → τ.r 0 k = σ.r 0 k) ∧
  (τ.r 6 1 = σ.r 6 1 ∨ ∃ a, σ.sh.length ≤ a ∧ τ.r 6 1 = Rf.ptr a)
section TG
variable {k0 c0 l0 m0 : Nat} {σ τ υ : Sg} {lst lst' : List Nat} {cap cap' : Nat} {W : Nat → Prop}
theorem TF.tg (h : TF k0 c0 l0 m0 σ τ lst cap lst' cap' W) : TG k0 c0 l0 m0 σ τ lst lst' W := by
  obtain ⟨⟨more, h1, h2, h3⟩, h4⟩ := h
  exact ⟨fun a s q => h3.get q, ⟨more, h1, h2⟩, h4⟩
/-- cells made behind all that, nothing else -/
theorem TG.more (h : TG k0 c0 l0 m0 σ τ lst lst' W) (hs : ∃ ext, υ.sh = τ.sh ++ ext) (hle : 7 ≤ σ.sh.length) (hc : ∀ b, b < τ.sh.length → υ.i b = τ.i b ∧ υ.l b = τ.l b ∧ υ.r b = τ.r b) : TG k0 c0 l0 m0 σ υ lst lst' W := by
  obtain ⟨g1, g2, g3, g4, g5, g6, g7⟩ := h
  obtain ⟨ext, he⟩ := hs
  have hl : σ.sh.length ≤ τ.sh.length := by
    refine Nat.le_of_not_lt fun q => ?_
    have := g1 (σ.sh.length - 1) _ (List.getElem?_eq_getElem (by omega))
    have := (List.getElem?_eq_some_iff.mp this).1
    omega
  have c0 := hc 0 (by omega)
  have c6 := hc 6 (by omega)
  refine ⟨fun a s q => ?_, g2, fun a a1 a2 a3 => ?_, fun k k1 k2 k3 => by rw [c0.1]; exact g4 k k1 k2 k3, by rw [c0.2.1]; exact g5, fun k k1 k2 => by rw [c0.2.2]; exact g6 k k1 k2, by rw [c6.2.2]; exact g7⟩
  · have := g1 a s q
    rw [he, List.getElem?_append_left (List.getElem?_eq_some_iff.mp this).1]
    exact this
  · obtain ⟨b1, b2, b3⟩ := hc a (by omega)
    obtain ⟨d1, d2, d3⟩ := g3 a a1 a2 a3
    exact ⟨b1.trans d1, b2.trans d2, fun z => b3.trans (d3 z)⟩
theorem MsL.tg {ms : List (Mtd × Bool)} {cs : List Cal} {b : Nat} (h : MsL ms cs σ lst b) (F : FX ΦR σ.sh σ.r) (L : LsS σ 6 lst cap) (G : TG k0 c0 l0 m0 σ τ lst lst' W) (hm : ms.length ≤ m0) (h120 : ms.length ≤ 120) (hW : ∀ i, i < b → ¬ W i) : MsL ms cs τ lst' b := by
  intro j x hx
  have hj := (List.getElem?_eq_some_iff.mp hx).1
  have hs := sh_ge F
  have lo : ∀ a, 2501 + 4 * j ≤ a → a < 2501 + 4 * j + 4 → τ.i a = σ.i a ∧ τ.l a = σ.l a ∧ (σ.r 6 1 ≠ Rf.ptr a → τ.r a = σ.r a) := fun a a1 a2 => G.2.2.1 a (by omega) (by unfold txA; omega) (fun i hi => by
    have := nd_ge F (L.2.2.2.1 a (List.mem_of_getElem? hi))
    omega)
  refine (h j x hx).mono (fun _ _ z => z) (fun a a1 a2 => (lo a a1 a2).1) ((lo _ (Nat.le_refl _) (by omega)).2.2 fun z => ?_) (fun y hy hys => ?_)
  · have := oa_ge F (L.arr z)
    omega
  · obtain ⟨i, i1, i2, i3⟩ := hy
    have hge := nd_ge F hys
    obtain ⟨g1, g2, g3⟩ := G.2.2.1 y (List.getElem?_eq_some_iff.mp hys).1 (by unfold txA; omega) (fun i' hi' => by
      obtain ⟨a1, a2⟩ := List.getElem?_eq_some_iff.mp i3
      obtain ⟨b1, b2⟩ := List.getElem?_eq_some_iff.mp hi'
      have : i = i' := (List.getElem_inj L.2.2.2.2.1).mp (a2.trans b2.symm)
      rw [← this]
      exact hW i i2)
    obtain ⟨more, e, -⟩ := G.2.1
    refine ⟨⟨i, i1, i2, ?_⟩, G.1 _ _ hys, g1, g2, g3 fun z => ?_⟩
    · rw [e, List.getElem?_append_left (List.getElem?_eq_some_iff.mp i3).1]
      exact i3
    · have := L.arr z
      rw [hys] at this
      cases this
theorem RbR.mono {ks : List Knd} {cs : List Cal} {ms : List (Mtd × Bool)} (h : RbR ks cs ms σ) (hk : ks.length ≤ 24) (hc : cs.length ≤ 24) (hi : ∀ a, 55 ≤ a → a < 2121 → (a < 1933 ∧ a ≠ 1931) ∨ 2071 ≤ a → τ.i a = σ.i a ∧ τ.l a = σ.l a) (h41 : τ.i 0 41 = σ.i 0 41) : RbR ks cs ms τ := by
  obtain ⟨h1, ⟨h2, h3⟩, h4, h5, h6, h7⟩ := h
  have hst : ∀ A M, 55 ≤ A → A < 1931 → st2 τ A M = st2 σ A M := fun A M a1 a2 => by
    unfold st2
    rw [(hi A a1 (by omega) (by omega)).2]
  refine ⟨fun a b a1 a2 => ?_, ⟨h41.trans h2, fun i y q => ?_⟩, fun c M c1 c2 c3 => ?_, fun c i k M c1 c2 c3 c4 c5 => ?_, fun c c1 => ?_, fun c i c1 c2 => ?_⟩
  · rw [(hi _ (by omega) (by omega) (by omega)).1]
    exact h1 a b a1 a2
  · rw [(hi _ (by omega) (by omega) (by omega)).1]
    exact h3 i y q
  · rw [hst _ _ (by omega) (by omega)]
    exact h4 c M c1 c2 c3
  · rw [hst (fitA c i k) M (by show 55 ≤ 55 + 1 + 76 * c + 1 + 25 * i + 1 + k; omega) (by show 55 + 1 + 76 * c + 1 + 25 * i + 1 + k < _; omega)]
    exact h5 c i k M c1 c2 c3 c4 c5
  · rw [(hi _ (by omega) (by omega) (by omega)).1]
    exact h6 c c1
  · have ef : ∀ y ∈ mkW ks, ∀ j, τ.l (fitA c i y) j = σ.l (fitA c i y) j := fun y hy j => by
      have hy2 : y < ks.length := List.mem_range.mp (List.mem_filter.mp hy).1
      rw [(hi (fitA c i y) (by show 55 ≤ 55 + 1 + 76 * c + 1 + 25 * i + 1 + y; omega) (by show 55 + 1 + 76 * c + 1 + 25 * i + 1 + y < _; omega) (by show (55 + 1 + 76 * c + 1 + 25 * i + 1 + y < 1933 ∧ 55 + 1 + 76 * c + 1 + 25 * i + 1 + y ≠ 1931) ∨ _; omega)).2]
    rw [(hi _ (by omega) (by omega) (by omega)).2, (hi (2096 + 1 + c) (by omega) (by omega) (by omega)).2, (h7 c i c1 c2).1, (h7 c i c1 c2).2]
    exact ⟨orL_congr fun y hy => (ef y hy 0).symm, orL_congr fun y hy => (ef y hy 1).symm⟩
end TG
section SIDE
variable {W : Wld} {pg : Ast} {t : Nat → Int32} {n m : Nat} {lst : List Nat} {cap m7 : Nat} {lst7 : List Nat} {cap7 : Nat} {σ τ υ : Sg} {lst' : List Nat} {k0 c0 l0 m0 : Nat} {X : Nat → Prop}
theorem RefR.fx (R : RefR W pg t n m lst cap m7 lst7 cap7 σ) : FX ΦR σ.sh σ.r := R.1
theorem RefR.w3 (R : RefR W pg t n m lst cap m7 lst7 cap7 σ) : W3 W.1 W.2.1 W.2.2.1 σ := R.2.1
theorem RefR.mn (R : RefR W pg t n m lst cap m7 lst7 cap7 σ) : σ.i 0 6 = Int32.ofNat W.2.2.2.length ∧ W.2.2.2.length ≤ 120 := R.2.2.1
theorem RefR.ms (R : RefR W pg t n m lst cap m7 lst7 cap7 σ) : MsL W.2.2.2 W.2.1 σ lst m := R.2.2.2.1
theorem RefR.rb (R : RefR W pg t n m lst cap m7 lst7 cap7 σ) : RbR W.1 W.2.1 W.2.2.2 σ := R.2.2.2.2.1
theorem RefR.tx (R : RefR W pg t n m lst cap m7 lst7 cap7 σ) : TX t n σ ∧ ∀ k, by8 (t k) := R.2.2.2.2.2.1
theorem RefR.n5 (R : RefR W pg t n m lst cap m7 lst7 cap7 σ) : NdS σ 5 m lst cap := R.2.2.2.2.2.2.1
theorem RefR.n7 (R : RefR W pg t n m lst cap m7 lst7 cap7 σ) : NdS σ 7 m7 lst7 cap7 := R.2.2.2.2.2.2.2.1
theorem RefR.dj (R : RefR W pg t n m lst cap m7 lst7 cap7 σ) : (∀ v ∈ lst, v ∉ lst7) ∧ ∀ b, σ.r 6 1 = Rf.ptr b → σ.r 8 1 ≠ Rf.ptr b := R.2.2.2.2.2.2.2.2.1
theorem RefR.tr (R : RefR W pg t n m lst cap m7 lst7 cap7 σ) : TrN σ (Rg lst7 0 m7) pg (σ.r 0 10) := R.2.2.2.2.2.2.2.2.2
/-- the program and its Nodes -/
theorem RefR.side (R : RefR W pg t n m lst cap m7 lst7 cap7 σ) (G : TG k0 c0 l0 m0 σ τ lst lst' X) : NdS τ 7 m7 lst7 cap7 ∧ ((∀ v ∈ lst', v ∉ lst7) ∧ ∀ b, τ.r 6 1 = Rf.ptr b → τ.r 8 1 ≠ Rf.ptr b) ∧ TrN τ (Rg lst7 0 m7) pg (τ.r 0 10) := by
  have hs := sh_ge R.fx
  have L := R.n5.1
  obtain ⟨L7, n1, n2, n3, n4⟩ := R.n7
  have nl : ∀ a, a < 3365 → ∀ i : Nat, lst[i]? = some a → ¬ X i := fun a ha i hi => by
    have := nd_ge R.fx (L.2.2.2.1 a (List.mem_of_getElem? hi))
    omega
  have c7 := G.2.2.1 7 (by omega) (by unfold txA; omega) (nl 7 (by omega))
  have c8 := G.2.2.1 8 (by omega) (by unfold txA; omega) (nl 8 (by omega))
  have r8 : τ.r 8 = σ.r 8 := c8.2.2 fun z => by
    have := oa_ge R.fx (L.arr z)
    omega
  have e8 : τ.r 8 1 = σ.r 8 1 := by rw [r8]
  have hlst : ∀ v ∈ lst7, v < σ.sh.length ∧ τ.i v = σ.i v ∧ τ.l v = σ.l v ∧ τ.r v = σ.r v := by
    intro v hv
    have hsv := L7.2.2.2.1 v hv
    have hge := nd_ge R.fx hsv
    have hlt := (List.getElem?_eq_some_iff.mp hsv).1
    obtain ⟨g1, g2, g3⟩ := G.2.2.1 v hlt (by unfold txA; omega) (fun i hi => absurd hv (R.dj.1 v (List.mem_of_getElem? hi)))
    refine ⟨hlt, g1, g2, g3 fun z => ?_⟩
    have := L.arr z
    rw [hsv] at this
    cases this
  refine ⟨⟨L7.mono G.1 (by rw [c8.1]) e8 (fun b hb => ?_), by rw [c7.1]; exact n1, n2, n3, n4⟩, ⟨fun v hv => ?_, fun b hb z => ?_⟩, ?_⟩
  · have hsb := L7.arr hb
    have hge := oa_ge R.fx hsb
    refine (G.2.2.1 b (List.getElem?_eq_some_iff.mp hsb).1 (by unfold txA; omega) (fun i hi => ?_)).2.2 (fun z => R.dj.2 b z hb)
    have := L.2.2.2.1 b (List.mem_of_getElem? hi)
    rw [hsb] at this
    cases this
  · obtain ⟨more, e, hm⟩ := G.2.1
    rw [e] at hv
    rcases List.mem_append.mp hv with q | q
    · exact R.dj.1 v q
    · intro z
      have := hm v q
      have := (hlst v z).1
      omega
  · rw [e8] at z
    rcases G.2.2.2.2.2.2 with q | ⟨a, q1, q2⟩
    · exact R.dj.2 b (q.symm.trans hb) z
    · have := q2.symm.trans hb
      cases this
      have := (List.getElem?_eq_some_iff.mp (L7.arr z)).1
      omega
  · rw [G.2.2.2.2.2.1 10 (by decide) (by decide)]
    refine TrN.mono (fun y hy hys => ?_) _ _ R.tr
    obtain ⟨i, i1, i2, i3⟩ := hy
    obtain ⟨g0, g1, g2, g3⟩ := hlst y (List.mem_of_getElem? i3)
    exact ⟨⟨i, i1, i2, i3⟩, G.1 _ _ hys, g1, g2, g3⟩
/-- the world as it was, with its counts set back -/
theorem RefR.back {lst' : List Nat} {cap' : Nat} (R : RefR W pg t n m lst cap m7 lst7 cap7 σ) (G : TG W.1.length W.2.1.length W.2.2.1.length W.2.2.2.length σ τ lst lst' (fun i => m ≤ i)) (Fτ : FX ΦR τ.sh τ.r) (L' : LsS τ 6 lst' cap') (hb : lst'.length ≤ 23400 ∧ cap' ≤ 2 * lst'.length + 10) (hs : υ.sh = τ.sh) (hl : υ.l = τ.l) (hr : υ.r = τ.r) (hi : ∀ a, a ≠ 0 → a ≠ 5 → υ.i a = τ.i a) (h5 : υ.i 5 1 = Int32.ofNat m) (h4 : υ.i 0 4 = σ.i 0 4) (h5' : υ.i 0 5 = σ.i 0 5) (h6 : υ.i 0 6 = σ.i 0 6) (h7 : υ.i 0 7 = σ.i 0 7) (h15 : υ.i 0 15 = 0) (h0 : ∀ k, k ≠ 15 → k ≠ 112 → ¬ (4 ≤ k ∧ k ≤ 7) → υ.i 0 k = τ.i 0 k) : RefR W pg t 0 m lst' cap' m7 lst7 cap7 υ ∧ KpR σ υ := by
  have hsh := sh_ge R.fx
  have L := R.n5.1
  have hk := R.w3.1.2.1
  have hc := R.w3.2.1.2.1
  have hly := R.w3.2.2.2.1
  obtain ⟨hm6, h120⟩ := R.mn
  have nl : ∀ a, a < 3365 → ∀ i : Nat, lst[i]? = some a → ¬ m ≤ i := fun a ha i hi => by
    have := nd_ge R.fx (L.2.2.2.1 a (List.mem_of_getElem? hi))
    omega
  have lo : ∀ a, 9 ≤ a → a < 3365 → ¬ txA W.1.length W.2.1.length W.2.2.1.length W.2.2.2.length a → υ.i a = σ.i a ∧ υ.l a = σ.l a ∧ υ.r a = σ.r a := fun a a1 a2 a3 => by
    obtain ⟨g1, g2, g3⟩ := G.2.2.1 a (by omega) a3 (nl a a2)
    refine ⟨by rw [hi a (by omega) (by omega)]; exact g1, by rw [hl]; exact g2, ?_⟩
    rw [hr]
    refine g3 fun z => ?_
    have := oa_ge R.fx (L.arr z)
    omega
  obtain ⟨s1, s2, s3⟩ := R.side G
  obtain ⟨⟨t1, t2, t3, t4⟩, t5⟩ := R.tx
  have mlen : lst.length ≤ lst'.length := by
    obtain ⟨more, e, -⟩ := G.2.1
    rw [e, List.length_append]
    omega
  have F2 : FX ΦR υ.sh υ.r := by
    rw [hs, hr]
    exact Fτ
  refine ⟨⟨F2, R.w3.keep (fun a ha => (lo a (by omega) (by omega) (by unfold txA; omega)).1) h4 h5' h7, ⟨h6.trans hm6, h120⟩, ?_, ?_, ⟨⟨by decide, h15, fun k hk2 => ?_, t4⟩, t5⟩, ⟨?_, h5, by have := R.n5.2.2.1; omega, hb⟩, ⟨?_, ?_, s1.2.2⟩, ⟨s2.1, ?_⟩, ?_⟩, fun a a1 a2 a3 a4 a5 => lo a a1 a2 (by unfold txA; omega), fun k k1 k2 k3 k4 k5 k6 => ?_, ?_, fun k k1 k2 => ?_⟩
  · refine fun j x hx => ((R.ms.tg R.fx L G (Nat.le_refl _) h120 (fun i hi z => by omega)) j x hx).mono (fun _ _ z => z) (fun a a1 a2 => hi a (by omega) (by omega)) (by rw [hr]) (fun y hy hys => ⟨hy, by rw [hs]; exact hys, hi y ?_ ?_, by rw [hl], by rw [hr]⟩)
    · have := nd_ge Fτ hys
      omega
    · have := nd_ge Fτ hys
      omega
  · refine R.rb.mono hk.2 hc (fun a a1 a2 _ => ?_) ?_
    · have := lo a (by omega) (by omega) (by unfold txA; omega)
      exact ⟨this.1, this.2.1⟩
    · rw [h0 41 (by decide) (by decide) (by decide)]
      exact G.2.2.2.1 41 (by decide) (by decide) (by decide)
  · rw [(lo 37 (by decide) (by decide) (by unfold txA; omega)).1]
    exact t3 k hk2
  · exact L'.mono (fun a s q => by rw [hs]; exact q) (by rw [hi 6 (by decide) (by decide)]) (by rw [hr]) (fun b _ => by rw [hr])
  · exact s1.1.mono (fun a s q => by rw [hs]; exact q) (by rw [hi 8 (by decide) (by decide)]) (by rw [hr]) (fun b _ => by rw [hr])
  · rw [hi 7 (by decide) (by decide)]
    exact s1.2.1
  · rw [hr]
    exact s2.2
  · rw [hr]
    refine TrN.mono (fun y hy hys => ⟨hy, by rw [hs]; exact hys, hi y ?_ ?_, by rw [hl], by rw [hr]⟩) _ _ s3
    · have := nd_ge Fτ hys
      omega
    · have := nd_ge Fτ hys
      omega
  · rw [h0 k k3 k5 k6]
    exact G.2.2.2.1 k k1 k2 k6
  · rw [hl]
    exact G.2.2.2.2.1
  · rw [hr]
    exact G.2.2.2.2.2.1 k k1 k2
end SIDE

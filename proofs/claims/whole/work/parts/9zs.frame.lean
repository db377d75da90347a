/-! THE REFERENCE RUNS: its state, what stays -/
/-- a value that can be -/
def VlG (W : Wld) (x : Int64) : Prop := ∃ k n, x = vlX (Int32.ofNat k) n ∧ k ∈ mkW W.1
def evE (dp cn a k : Nat) : Prop := (a = 0 ∧ (k = 47 ∨ k = 48 ∨ k = 50 ∨ k = 53 ∨ k = 54 ∨ (73 ≤ k ∧ k ≤ 75) ∨ k = 79 ∨ k = 80 ∨ (84 ≤ k ∧ k ≤ 86))) ∨ a = 1931 ∨ (1933 ≤ a ∧ a ≤ 1935) ∨ (2067 ≤ a ∧ a ≤ 2070) ∨ (2121 ≤ a ∧ a ≤ 2125) ∨ a = 2128 ∨ a = 2130 ∨ a = 2131 ∨ a = 2134 ∨ a = 2135 ∨ (a = 2181 ∧ dp < k) ∨ a = 2182 ∨ a = 2183 ∨ (2981 + 8 * cn ≤ a ∧ a < 3365)
def evL (dp nv a k : Nat) : Prop := (1936 ≤ a ∧ a ≤ 2066) ∨ a = 2126 ∨ a = 2127 ∨ (a = 0 ∧ ((64 ≤ k ∧ k ≤ 67) ∨ k = 78)) ∨ (a = 2136 + 1 + dp ∧ nv ≤ k) ∨ (2136 + 1 + dp < a ∧ a ≤ 2178)
/-- what a run at depth dp, with cn choices and nv variables, leaves as it was -/
def EvF (dp cn nv : Nat) (σ τ : Sg) : Prop := τ.sh = σ.sh ∧ (∀ a k, ¬ (a = 0 ∧ k = 51) → ¬ ((a = 2179 ∨ a = 2180) ∧ dp < k) → τ.r a k = σ.r a k) ∧ (∀ a k, ¬ evE dp cn a k → τ.i a k = σ.i a k) ∧ ∀ a k, ¬ evL dp nv a k → τ.l a k = σ.l a k
section EVF
variable {dp cn nv : Nat} {σ τ υ : Sg}
theorem EvF.refl (dp cn nv : Nat) (σ : Sg) : EvF dp cn nv σ σ := ⟨rfl, fun _ _ _ _ => rfl, fun _ _ _ => rfl, fun _ _ _ => rfl⟩
theorem EvF.tr (h : EvF dp cn nv σ τ) (g : EvF dp cn nv τ υ) : EvF dp cn nv σ υ := ⟨g.1.trans h.1, fun a k q1 q2 => (g.2.1 a k q1 q2).trans (h.2.1 a k q1 q2), fun a k q => (g.2.2.1 a k q).trans (h.2.2.1 a k q), fun a k q => (g.2.2.2 a k q).trans (h.2.2.2 a k q)⟩
/-- with more variables less may change -/
theorem EvF.more {nv' : Nat} (h : EvF dp cn nv' σ τ) (hn : nv ≤ nv') : EvF dp cn nv σ τ := ⟨h.1, h.2.1, h.2.2.1, fun a k q => h.2.2.2 a k (fun z => q (by unfold evL at z ⊢; omega))⟩
theorem LtF.ev (h : LtF σ τ) : EvF dp cn nv σ τ := ⟨h.1, fun a k _ _ => by rw [h.2.1], fun a k q => by
  rw [h.2.2.1 a (fun z => q (by unfold evE; omega)) (fun z => q (by unfold evE; omega)) (fun z => q (by unfold evE; omega))], fun a k q => h.2.2.2 a k (fun z => q (by unfold evL; omega)) (fun z => q (by unfold evL; omega)) (fun z => q (by unfold evL; omega))⟩
theorem GF.ev {E : Nat → Nat → Prop} (h : GF E σ τ) (hE : ∀ a k, E a k → evE dp cn a k) : EvF dp cn nv σ τ := ⟨h.1, fun a k q _ => h.2.1 a k q, fun a k q => h.2.2.1 a k (fun z => q (hE a k z)) (fun z => q (by unfold evE; omega)) (fun z => q (by unfold evE; omega)) (fun z => q (by unfold evE; omega)), fun a k q => by rw [h.2.2.2 a (fun z => q (by unfold evL; omega))]⟩
theorem EvF.wi {a k : Nat} {v : Int32} (h : evE dp cn a k) : EvF dp cn nv σ (σ.wi a k v) := ⟨rfl, fun _ _ _ _ => rfl, fun x y q => wi_ne (fun z => q (by rw [z.1, z.2]; exact h)), fun _ _ _ => rfl⟩
theorem EvF.wl {a k : Nat} {v : Int64} (h : evL dp nv a k) : EvF dp cn nv σ (σ.wl a k v) := ⟨rfl, fun _ _ _ _ => rfl, fun _ _ _ => rfl, fun x y q => by rw [wl_l, if_neg (fun z => q (by rw [z.1, z.2]; exact h))]⟩
/-- a run one level deeper, one choice more -/
theorem EvF.deep {nv' : Nat} (hd : dp ≤ 40) (h : EvF (dp + 1) (cn + 1) nv' σ τ) : EvF dp cn nv σ τ := ⟨h.1, fun a k q1 q2 => h.2.1 a k q1 (fun z => q2 ⟨z.1, by omega⟩), fun a k q => h.2.2.1 a k (fun z => q (by unfold evE at z ⊢; omega)), fun a k q => h.2.2.2 a k (fun z => q (by unfold evL at z ⊢; omega))⟩
theorem EvF.deep' {nv' : Nat} (hd : dp ≤ 40) (h : EvF (dp + 1) cn nv' σ τ) : EvF dp cn nv σ τ := ⟨h.1, fun a k q1 q2 => h.2.1 a k q1 (fun z => q2 ⟨z.1, by omega⟩), fun a k q => h.2.2.1 a k (fun z => q (by unfold evE at z ⊢; omega)), fun a k q => h.2.2.2 a k (fun z => q (by unfold evL at z ⊢; omega))⟩
end EVF
/-- the world, as a run finds and leaves it -/
def WrS (W : Wld) (lst : List Nat) (b wy ch fuel : Nat) (σ : Sg) : Prop := NwS W lst b wy σ ∧ RbR W.1 W.2.1 W.2.2.2 σ ∧ MmR W wy σ ∧ OrR W σ ∧ (σ.i 0 81 = Int32.ofNat fuel ∧ fuel ≤ 100000) ∧ (σ.i 0 82 = Int32.ofNat ch ∧ ch ≤ 3)
/-- a run: depth, choices, layers, what it counts -/
def RnS (dp cn : Nat) (on : List Nat) (S : Es) (σ : Sg) : Prop := (σ.i 0 87 = Int32.ofNat dp ∧ dp ≤ 24) ∧ (σ.i 0 70 = Int32.ofNat cn ∧ cn ≤ dp + 1) ∧ (σ.l 0 68 = Int64.ofNat (enL on) ∧ (∀ x ∈ on, x < 8) ∧ on.Nodup) ∧ σ.i 0 80 = Int32.ofNat S.1 ∧ σ.i 0 84 = Int32.ofNat S.2.1 ∧ (σ.i 0 85 = Int32.ofNat S.2.2.1.length ∧ S.2.2.1.length ≤ 512 ∧ ∀ i x, S.2.2.1[i]? = some x → σ.i 2134 i = x) ∧ (σ.i 0 86 = Int32.ofNat S.2.2.2.1 ∧ S.2.2.2.2.length = min S.2.2.2.1 512 ∧ ∀ (i x : Nat), S.2.2.2.2[i]? = some x → σ.i 2135 i = Int32.ofNat x)
/-- the variables of a frame -/
def VaS (W : Wld) (dp : Nat) (vs : List Int64) (σ : Sg) : Prop := ∀ (i : Nat) x, vs[i]? = some x → σ.l (2136 + 1 + dp) i = x ∧ VlG W x
section RNS
variable {W : Wld} {lst : List Nat} {b wy ch fuel dp cn nv : Nat} {on : List Nat} {S : Es} {vs : List Int64} {σ τ : Sg}
theorem on_len {on : List Nat} (h : ∀ x ∈ on, x < 8) (hn : on.Nodup) : on.length ≤ 8 := by
  have := nd_le on (List.range 8) hn (fun x hx => List.mem_range.mpr (h x hx))
  rw [List.length_range] at this
  exact this
theorem VaS.ev (h : VaS W dp vs σ) (g : EvF dp cn nv σ τ) (hn : vs.length ≤ nv) (hd : dp ≤ 41) : VaS W dp vs τ := fun i x hx => by
  have hi := (List.getElem?_eq_some_iff.mp hx).1
  obtain ⟨a1, a2⟩ := h i x hx
  exact ⟨(g.2.2.2 _ i (fun z => by unfold evL at z; omega)).trans a1, a2⟩
theorem NwS.ev (h : NwS W lst b wy σ) (g : EvF dp cn nv σ τ) (hd : dp ≤ 24) (hF : FX ΦR τ.sh τ.r) : NwS W lst b wy τ := by
  obtain ⟨h1, h2, ⟨h3, h3'⟩, h4, h5, h6, h7⟩ := h
  have hk := h2.1.2.1
  have hc := h2.2.1.2.1
  have hl := h2.2.2.2.1
  have row : ∀ a, (2193 ≤ a ∧ a < 2981) ∨ 3365 ≤ a ∨ (1880 ≤ a ∧ a < 1905) → τ.i a = σ.i a := fun a q => funext fun k => g.2.2.1 a k (fun z => by unfold evE at z; omega)
  have z0 : ∀ k, (k = 4 ∨ k = 5 ∨ k = 6 ∨ k = 7 ∨ k = 83) → τ.i 0 k = σ.i 0 k := fun k q => g.2.2.1 0 k (fun z => by unfold evE at z; omega)
  refine ⟨hF, h2.keep (fun a ha => row a (by omega)) (z0 4 (by decide)) (z0 5 (by decide)) (z0 7 (by decide)), ⟨(z0 6 (by decide)).trans h3, h3'⟩, fun j x hx => ?_, fun a b ha hb => ?_, ⟨(z0 83 (by decide)).trans h6, h7⟩⟩
  · have hj := (List.getElem?_eq_some_iff.mp hx).1
    refine (h4 j x hx).mono (fun _ _ z => z) (fun a a1 a2 => row a (by omega)) (funext fun k => g.2.1 _ k (by omega) (by omega)) (fun y hy hys => ?_)
    have := nd_ge h1 hys
    exact ⟨hy, by rw [g.1]; exact hys, row y (by omega), funext fun k => g.2.2.2 y k (fun z => by unfold evL at z; omega), funext fun k => g.2.1 y k (by omega) (by omega)⟩
  · rw [row _ (by omega)]
    exact h5 a b ha hb
/-- trees stay -/
theorem TrN.ev {A : Nat → Prop} {x : Ast} {r : Rf} (F : FX ΦR σ.sh σ.r) (h : TrN σ A x r) (g : EvF dp cn nv σ τ) (hd : dp ≤ 24) : TrN τ A x r := TrN.mono (fun y hy hys => by
  have := nd_ge F hys
  exact ⟨hy, by rw [g.1]; exact hys, funext fun k => g.2.2.1 y k (fun z => by unfold evE at z; omega), funext fun k => g.2.2.2 y k (fun z => by unfold evL at z; omega), funext fun k => g.2.1 y k (by omega) (by omega)⟩) _ _ h
end RNS

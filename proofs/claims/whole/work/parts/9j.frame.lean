/-! THE REFERENCE'S WORLD: kinds, calls, layers; what reading a text leaves as it was -/
/-- what a text may write, where so many kinds, calls, layers, methods stood before -/
def txA (k0 c0 l0 m0 a : Nat) : Prop := a = 0 ∨ a = 54 ∨ a = 5 ∨ a = 6 ∨ (10 ≤ a ∧ a ≤ 36) ∨ (38 ≤ a ∧ a < 54) ∨ (2193 + 9 * k0 ≤ a ∧ a < 2409) ∨ (2409 + 3 * c0 ≤ a ∧ a < 2481) ∨ (2481 + 2 * l0 ≤ a ∧ a < 2497) ∨ (2501 + 4 * m0 ≤ a ∧ a < 2981)
def TF (k0 c0 l0 m0 : Nat) (σ τ : Sg) (lst : List Nat) (cap : Nat) (lst' : List Nat) (cap' : Nat) (W : Nat → Prop) : Prop :=
  (∃ more, lst' = lst ++ more ∧ (∀ v ∈ more, σ.sh.length ≤ v) ∧ RmL σ.sh τ.sh more.length cap cap') ∧
  (∀ a, a < σ.sh.length → ¬ txA k0 c0 l0 m0 a → (∀ i : Nat, lst[i]? = some a → ¬ W i) → τ.i a = σ.i a ∧ τ.l a = σ.l a ∧ (σ.r 6 1 ≠ Rf.ptr a → τ.r a = σ.r a)) ∧
  (∀ k, ¬ rdK k → k ≠ 33 → ¬ (4 ≤ k ∧ k ≤ 7) → τ.i 0 k = σ.i 0 k) ∧ τ.l 0 = σ.l 0 ∧ (∀ k, k ≠ 25 → k ≠ 34 → τ.r 0 k = σ.r 0 k) ∧
  (τ.r 6 1 = σ.r 6 1 ∨ ∃ a, σ.sh.length ≤ a ∧ τ.r 6 1 = Rf.ptr a)
section TF
variable {k0 c0 l0 m0 k1 c1 l1 m1 nv M : Nat} {σ τ υ : Sg} {lst lst' lst2 : List Nat} {cap cap' cap2 : Nat} {W W' : Nat → Prop}
theorem RF.tf (h : RF 5 nv σ τ lst cap lst' cap' W) : TF k0 c0 l0 m0 σ τ lst cap lst' cap' W := ⟨h.1, fun a h1 h2 h6 => h.2.1 a h1 (fun z => h2 (Or.inl z)) (fun z => h2 (Or.inr (Or.inl z))) (fun z => h2 (Or.inr (Or.inr (Or.inl z)))) (fun z => h2 (Or.inr (Or.inr (Or.inr (Or.inl z))))) h6, fun k hk _ _ => h.2.2.1 k hk, h.2.2.2.1, fun k hk _ => h.2.2.2.2.1 k hk, h.2.2.2.2.2.2⟩
theorem MF.tf (h : MF 5 M σ τ lst cap lst' cap' W) (hM : MtP M) (h2 : M = 50 ∨ 2501 + 4 * m0 ≤ M) : TF k0 c0 l0 m0 σ τ lst cap lst' cap' W := by
  have hr := hM.rg
  refine ⟨h.1, fun a h1 h3 h6 => ?_, fun k hk h33 h47 => h.2.2.1 k hk h33 (fun z => h47 (by omega)), h.2.2.2.1, h.2.2.2.2.1, h.2.2.2.2.2⟩
  unfold txA at h3
  exact h.2.1 a h1 (by omega) (by omega) (by omega) (by omega) (by omega) h6
theorem TF.refl (k0 c0 l0 m0 : Nat) (σ : Sg) (lst : List Nat) (cap : Nat) (W : Nat → Prop) : TF k0 c0 l0 m0 σ σ lst cap lst cap W := (RF.refl 5 0 σ lst cap W).tf
theorem TF.tr (h : TF k0 c0 l0 m0 σ τ lst cap lst' cap' W) (g : TF k1 c1 l1 m1 τ υ lst' cap' lst2 cap2 W') (hW : ∀ i, W' i → W i) (e1 : k0 ≤ k1) (e2 : c0 ≤ c1) (e3 : l0 ≤ l1) (e4 : m0 ≤ m1) : TF k0 c0 l0 m0 σ υ lst cap lst2 cap2 W := by
  obtain ⟨⟨x1, h1, h2, h3⟩, h4, h5, h6, h7, h9⟩ := h
  obtain ⟨⟨x2, g1, g2, g3⟩, g4, g5, g6, g7, g9⟩ := g
  have hl := h3.len
  refine ⟨⟨x1 ++ x2, by rw [g1, h1, List.append_assoc], fun v hv => ?_, by rw [List.length_append]; exact h3.trans g3⟩, fun a a1 a2 a6 => ?_, fun k hk k1 k2 => (g5 k hk k1 k2).trans (h5 k hk k1 k2), g6.trans h6, fun k hk k1 => (g7 k hk k1).trans (h7 k hk k1), ?_⟩
  · rcases List.mem_append.mp hv with q | q
    · exact h2 v q
    · exact Nat.le_trans hl (g2 v q)
  · have hn : ∀ i : Nat, lst'[i]? = some a → ¬ W' i := by
      intro i q z
      rw [h1] at q
      by_cases hi : i < lst.length
      · rw [List.getElem?_append_left hi] at q
        exact a6 i q (hW i z)
      · rw [List.getElem?_append_right (by omega)] at q
        have := h2 a (List.mem_of_getElem? q)
        omega
    obtain ⟨b1, b2, b3⟩ := h4 a a1 a2 a6
    obtain ⟨c1, c2, c3⟩ := g4 a (by omega) (fun z => a2 (by unfold txA at z ⊢; omega)) hn
    refine ⟨c1.trans b1, c2.trans b2, fun q => (c3 fun z => ?_).trans (b3 q)⟩
    rcases h9 with w | ⟨w, w1, w2⟩
    · exact q (w.symm.trans z)
    · rw [z] at w2
      cases w2
      omega
  · rcases g9 with w | ⟨w, w1, w2⟩
    · rcases h9 with y | ⟨y, y1, y2⟩
      · exact Or.inl (w.trans y)
      · exact Or.inr ⟨y, y1, w.trans y2⟩
    · exact Or.inr ⟨w, by omega, w2⟩
theorem TF.pre (h : TF k0 c0 l0 m0 σ τ lst cap lst' cap' W) : ∀ (i v : Nat), lst[i]? = some v → lst'[i]? = some v := by
  obtain ⟨⟨x, h1, -, -⟩, -⟩ := h
  intro i v q
  rw [h1, List.getElem?_append_left (List.getElem?_eq_some_iff.mp q).1]
  exact q
/-- numbers written there alone -/
theorem tf_i (hs : τ.sh = σ.sh) (hl : τ.l = σ.l) (hr : τ.r = σ.r) (hi : ∀ a, a ≠ 0 → ¬ txA k0 c0 l0 m0 a → τ.i a = σ.i a) (h0 : ∀ k, ¬ (4 ≤ k ∧ k ≤ 7) → τ.i 0 k = σ.i 0 k) : TF k0 c0 l0 m0 σ τ lst cap lst cap (fun _ => False) := by
  refine ⟨⟨[], (List.append_nil _).symm, fun v hv => (by cases hv), by rw [hs]; exact RmL.refl _ _⟩, fun a _ h1 _ => ⟨hi a (fun z => h1 (Or.inl z)) h1, by rw [hl], fun _ => by rw [hr]⟩, fun k _ _ h => h0 k h, by rw [hl], fun k _ _ => by rw [hr], Or.inl (by rw [hr])⟩
end TF
/-- a kind as it stands in the heap -/
def Kd1 (σ : Sg) (k : Nat) (x : Knd) : Prop := NmIs σ ((2193 + 9 * k) + 1) x.1 ∧ σ.i (2193 + 9 * k) 1 = (if x.2.1 = true then 1 else 0) ∧ σ.i (2193 + 9 * k) 3 = Int32.ofNat x.2.2.1.length ∧ (∀ i p, x.2.2.1[i]? = some p → σ.i (2193 + 9 * k + 3) i = Int32.ofNat p) ∧ (x.2.2.1.length ≤ 24 ∧ ∀ p ∈ x.2.2.1, p < k) ∧ ∀ w, w < 3 → RwIs σ (2193 + 9 * k) w (rwK x w) ∧ ∀ z ∈ rwK x w, z ≤ k
def KdR (ks : List Knd) (σ : Sg) : Prop := σ.i 0 4 = Int32.ofNat ks.length ∧ (1 ≤ ks.length ∧ ks.length ≤ 24) ∧ ∀ (k : Nat) x, ks[k]? = some x → Kd1 σ k x
def Cl1 (σ : Sg) (k : Nat) (x : Cal) : Prop := NmIs σ ((2409 + 3 * k) + 1) x.1 ∧ (1 ≤ x.2.1 ∧ x.2.1 ≤ 3 ∧ σ.i (2409 + 3 * k) 1 = Int32.ofNat x.2.1) ∧ (x.2.2.1 ≤ 4 ∧ σ.i (2409 + 3 * k) 2 = Int32.ofNat x.2.2.1) ∧ (x.2.2.2 ≤ 2 ∧ σ.i (2409 + 3 * k) 3 = Int32.ofNat x.2.2.2)
def ClR (cs : List Cal) (σ : Sg) : Prop := σ.i 0 5 = Int32.ofNat cs.length ∧ cs.length ≤ 24 ∧ ∀ (k : Nat) x, cs[k]? = some x → Cl1 σ k x
def LyR (ls : List (List Int32)) (σ : Sg) : Prop := σ.i 0 7 = Int32.ofNat ls.length ∧ ls.length ≤ 8 ∧ ∀ (k : Nat) nm, ls[k]? = some nm → NmIs σ (2481 + 2 * k) nm
/-- the kinds, calls and layers -/
def W3 (ks : List Knd) (cs : List Cal) (ls : List (List Int32)) (σ : Sg) : Prop := KdR ks σ ∧ ClR cs σ ∧ LyR ls σ
section W3
variable {ks : List Knd} {cs : List Cal} {ls : List (List Int32)} {σ τ : Sg}
theorem Kd1.mono {k : Nat} {x : Knd} (h : Kd1 σ k x) (hi : ∀ a, 2193 + 9 * k ≤ a → a < 2193 + 9 * k + 9 → τ.i a = σ.i a) : Kd1 τ k x := by
  obtain ⟨h1, h2, h3, h4, h5, h6⟩ := h
  refine ⟨h1.mono (hi _ (by omega) (by omega)) (hi _ (by omega) (by omega)), by rw [hi _ (by omega) (by omega)]; exact h2, by rw [hi _ (by omega) (by omega)]; exact h3, fun i p q => by rw [hi _ (by omega) (by omega)]; exact h4 i p q, h5, fun w hw => ⟨?_, (h6 w hw).2⟩⟩
  obtain ⟨g1, g2, g3, g4⟩ := (h6 w hw).1
  exact ⟨by rw [hi _ (by omega) (by omega)]; exact g1, g2, g3, fun i y q => by rw [hi _ (by omega) (by omega)]; exact g4 i y q⟩
theorem Cl1.mono {k : Nat} {x : Cal} (h : Cl1 σ k x) (hi : ∀ a, 2409 + 3 * k ≤ a → a < 2409 + 3 * k + 3 → τ.i a = σ.i a) : Cl1 τ k x := by
  obtain ⟨h1, ⟨h2, h3, h4⟩, ⟨h5, h6⟩, h7, h8⟩ := h
  refine ⟨h1.mono (hi _ (by omega) (by omega)) (hi _ (by omega) (by omega)), ⟨h2, h3, ?_⟩, ⟨h5, ?_⟩, h7, ?_⟩
  · rw [hi _ (by omega) (by omega)]
    exact h4
  · rw [hi _ (by omega) (by omega)]
    exact h6
  · rw [hi _ (by omega) (by omega)]
    exact h8
theorem W3.keep (h : W3 ks cs ls σ) (hi : ∀ a, (2193 ≤ a ∧ a < 2193 + 9 * ks.length) ∨ (2409 ≤ a ∧ a < 2409 + 3 * cs.length) ∨ (2481 ≤ a ∧ a < 2481 + 2 * ls.length) → τ.i a = σ.i a) (h4 : τ.i 0 4 = σ.i 0 4) (h5 : τ.i 0 5 = σ.i 0 5) (h7 : τ.i 0 7 = σ.i 0 7) : W3 ks cs ls τ := by
  obtain ⟨⟨k1, k2, k3⟩, ⟨c1, c2, c3⟩, ⟨l1, l2, l3⟩⟩ := h
  refine ⟨⟨h4.trans k1, k2, fun k x q => ?_⟩, ⟨h5.trans c1, c2, fun k x q => ?_⟩, ⟨h7.trans l1, l2, fun k x q => ?_⟩⟩
  · have := (List.getElem?_eq_some_iff.mp q).1
    exact (k3 k x q).mono (fun a a1 a2 => hi a (by omega))
  · have := (List.getElem?_eq_some_iff.mp q).1
    exact (c3 k x q).mono (fun a a1 a2 => hi a (by omega))
  · have := (List.getElem?_eq_some_iff.mp q).1
    exact (l3 k x q).mono (hi _ (by omega)) (hi _ (by omega))
theorem map_get {α β : Type} {l : List α} {f : α → β} {k : Nat} {y : β} (h : (l.map f)[k]? = some y) : ∃ x, l[k]? = some x ∧ f x = y := by
  rw [List.getElem?_map] at h
  exact Option.map_eq_some_iff.mp h
/-- the names told -/
theorem W3.en (h : W3 ks cs ls σ) {w : Int} (hw : w ≠ 999 → σ.i 0 33 = Int32.ofInt w ∧ -2 ≤ w ∧ w < cs.length) : EnR (enW ks cs ls w) σ := by
  obtain ⟨⟨k1, k2, k3⟩, ⟨c1, c2, c3⟩, ⟨l1, l2, l3⟩⟩ := h
  refine ⟨ks.map (·.1), cs.map (·.1), ls, ⟨by rw [List.length_map]; exact k1, by rw [List.length_map]; exact k2.2, fun k nm q => ?_, fun nm => rfl, fun k hk => ?_⟩, ⟨by rw [List.length_map]; exact c1, by rw [List.length_map]; exact c2, fun k nm q => ?_, fun nm => rfl, fun k hk => ?_⟩, ⟨l1, l2, l3, fun nm => rfl⟩, fun q => ⟨(hw q).1, (hw q).2.1, by rw [List.length_map]; exact (hw q).2.2⟩⟩
  · obtain ⟨x, hx, rfl⟩ := map_get q
    exact (k3 k x hx).1
  · rw [List.length_map] at hk
    have e := List.getElem?_eq_getElem hk
    rw [(k3 k _ e).2.1]
    show _ ↔ ((ks[k]?).map (·.2.1)).getD false = false
    rw [e]
    show _ ↔ (ks[k]).2.1 = false
    cases (ks[k]).2.1 <;> decide
  · obtain ⟨x, hx, rfl⟩ := map_get q
    exact (c3 k x hx).1
  · rw [List.length_map] at hk
    have e := List.getElem?_eq_getElem hk
    obtain ⟨-, g, -⟩ := c3 k _ e
    show 1 ≤ ((cs[k]?).map (·.2.1)).getD 0 ∧ ((cs[k]?).map (·.2.1)).getD 0 ≤ 3 ∧ _ = Int32.ofNat (((cs[k]?).map (·.2.1)).getD 0)
    rw [e]
    exact g
theorem W3.w (h : W3 ks cs ls σ) {w : Int} (hE : EnR (enW ks cs ls w) σ) : w ≠ 999 → σ.i 0 33 = Int32.ofInt w ∧ -2 ≤ w ∧ w < cs.length := by
  obtain ⟨-, ⟨c1, c2, c3⟩, -⟩ := h
  obtain ⟨ks', cs', ls', -, ⟨d1, d2, -⟩, -, w0⟩ := hE
  intro hq
  obtain ⟨w1, w2, w3⟩ := w0 hq
  refine ⟨w1, w2, ?_⟩
  have := (oN_eq (by omega) (by omega)).mp (d1.symm.trans c1)
  rw [this] at w3
  exact w3
end W3
section DW
variable {Z : zT} {d : Nat} {t : Nat → Int32} {n : Nat} {env env' : Env} {B : Int32 × Int32 × Rf} {σ τ : Sg} {p c o : Nat} {vs : List (Nat × Nat)} {es E : Evs} {m : Nat} {lst : List Nat} {cap u : Nat} {K : kS} {M : Nat} {ks : List Knd} {cs : List Cal} {ls : List (List Int32)}
/-- numbers of kinds, calls, layers written -/
theorem RX.dw (S : RX t n env B σ p es m lst cap u) (hs : τ.sh = σ.sh) (hr : τ.r = σ.r) (hi : ∀ a, ¬ (a = 0 ∨ (10 ≤ a ∧ a ≤ 36) ∨ (38 ≤ a ∧ a < 54) ∨ (2193 ≤ a ∧ a < 2497)) → τ.i a = σ.i a) (h0 : ∀ k, ¬ (4 ≤ k ∧ k ≤ 7) → τ.i 0 k = σ.i 0 k) (hE : EnR env' τ) : RX t n env' B τ p es m lst cap u := by
  obtain ⟨b1, b2, b3, b4, b5⟩ := S.bd
  refine S.gen (τ := τ) (by rw [hs, hr]; exact S.fx) hs (fun a ha => hi a (by omega)) (h0 15 (by decide)) hE (by rw [hr]; exact S.md) (by rw [hr]) (fun b _ => by rw [hr]) ?_ ((h0 20 (by decide)).trans S.op) (S.rl.mono (h0 23 (by decide)) (h0 24 (by decide)) (h0 27 (by decide))) ((h0 22 (by decide)).trans S.cc) ⟨b4, b5⟩
  obtain ⟨w1, w2, w3, w4, w5, w6⟩ := S.cur
  exact ⟨w1, (h0 18 (by decide)).trans w2, (h0 16 (by decide)).trans w3, (h0 17 (by decide)).trans w4, fun a b => (h0 19 (by decide)).trans (w5 a b), fun a b => ⟨(h0 26 (by decide)).trans (w6 a b).1, fun z => by rw [hr]; exact (w6 a b).2 z⟩⟩
theorem W3.rf {nv : Nat} {W : Nat → Prop} {lst' : List Nat} {cap' : Nat} (h : W3 ks cs ls σ) (S : RX t n env B σ p es m lst cap u) (G : RF 5 nv σ τ lst cap lst' cap' W) : W3 ks cs ls τ := by
  have hk := h.1.2.1
  have hc := h.2.1.2.1
  have hl := h.2.2.2.1
  exact h.keep (fun a ha => rx_lo S G (by omega) (by omega) (by omega)) (G.2.2.1 4 (by decide)) (G.2.2.1 5 (by decide)) (G.2.2.1 7 (by decide))
theorem idx_lt (o : Option Nat) : (0 : Int) ≤ idx o ↔ o.isSome = true := by
  cases o with
  | none => decide
  | some k =>
    refine ⟨fun _ => rfl, fun _ => ?_⟩
    show (0 : Int) ≤ (k : Int)
    omega
theorem fi_24 {σ : Sg} (hE : EnR env σ) : (∀ nm k, env.1 nm = some k → k < 24) ∧ (∀ nm k, env.2.1 nm = some k → k < 24) ∧ (∀ nm k, env.2.2.1 nm = some k → k < 24) := by
  obtain ⟨ks, cs, ls, ⟨k1, k2, k3, k4, k5⟩, ⟨c1, c2, c3, c4, c5⟩, ⟨l1, l2, l3, l4⟩, -⟩ := hE
  refine ⟨fun nm k h => ?_, fun nm k h => ?_, fun nm k h => ?_⟩
  · rw [k4] at h
    have := fi_lt h
    omega
  · rw [c4] at h
    have := fi_lt h
    omega
  · rw [l4] at h
    have := fi_lt h
    omega
theorem ix_ge {o : Option Nat} (h : ∀ k, o = some k → k < 24) : (0 ≤ Int32.ofInt (idx o) ↔ o.isSome = true) ∧ (Int32.ofInt (idx o) < 0 ↔ o = none) := by
  cases o with
  | none => decide
  | some k =>
    have hk := h k rfl
    have e : Int32.ofInt (idx (some k)) = Int32.ofNat k := rfl
    rw [e]
    refine ⟨⟨fun _ => rfl, fun _ => (oN_le (a := 0) (by omega) (by omega)).mpr (Nat.zero_le _)⟩, ⟨fun z => ?_, fun z => by cases z⟩⟩
    have := (oN_lt (b := 0) (by omega) (by omega)).mp z
    omega
/-- isTold() -/
theorem rx_told {q l : Nat} (hd : 4 ≤ d) (S : RX t n env B σ p es m lst cap u) (hq : q + l ≤ 8192) (hl : l ≤ 16) (h1 : toE env (txN t q l) = true → K (.inl (some (.int 1))) σ) (h0 : ¬ toE env (txN t q l) = true → K (.inl (some (.int 0))) σ) : B_X23_isTold_0 Z d σ (Int32.ofNat (32 * q + l)) K := by
  obtain ⟨d, rfl⟩ : ∃ e, d = e + 1 := ⟨d - 1, by omega⟩
  obtain ⟨f1, f2, f3⟩ := fi_24 S.en
  have g1 := ix_ge (f1 (txN t q l))
  have g2 := ix_ge (f2 (txN t q l))
  have g3 := ix_ge (f3 (txN t q l))
  unfold toE at h1 h0
  refine S_X23_isTold_0 S.fx (rx_kind (by omega) S hq hl ⟨fun z => h1 ?_, fun z => rx_call (by omega) S hq hl ⟨fun y => h1 ?_, fun y => rx_layer (by omega) S hq hl ⟨fun x => h0 ?_, fun x => h1 ?_⟩⟩⟩)
  · rw [g1.1.mp z]
    rfl
  · rw [g2.1.mp y, Bool.or_true, Bool.true_or]
  · have a1 : (env.1 (txN t q l)).isSome = false := Bool.eq_false_iff.mpr (fun v => z (g1.1.mpr v))
    have a2 : (env.2.1 (txN t q l)).isSome = false := Bool.eq_false_iff.mpr (fun v => y (g2.1.mpr v))
    rw [a1, a2, g3.2.mp x]
    decide
  · have a3 : (env.2.2.1 (txN t q l)).isSome = true := by
      cases hx : env.2.2.1 (txN t q l) with
      | none => exact absurd (g3.2.mpr hx) x
      | some k => rfl
    rw [a3, Bool.or_true]
end DW

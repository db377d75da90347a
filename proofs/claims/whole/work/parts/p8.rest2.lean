/-! THE CLASS BETWEEN CALLS -/
/-- what stays but rows E -/
def KpF (E : Nat → Prop) (σ τ : Sg) : Prop := (∃ dyn, τ.sh = σ.sh ++ dyn) ∧ (∀ a k, a < σ.sh.length → τ.r a k = σ.r a k) ∧ ∀ a, a < σ.sh.length → ¬ E a → τ.i a = σ.i a ∧ τ.l a = σ.l a
/-- the last run, in the heap -/
def RnM (rn : Option (Rs × Es)) (σ : Sg) : Prop := match rn with
  | none => σ.i 83 11 = -1 ∧ σ.i 83 12 = 0 ∧ σ.i 83 14 = 0 ∧ MeS (0, 0, [], 0, []) σ
  | some r => RsM r σ
/-- the result, in the heap -/
def ResC (res : List Nat) (σ : Sg) : Prop := σ.i 0 10 = Int32.ofNat res.length ∧ res.length ≤ 512 ∧ ∀ (k x : Nat), res[k]? = some x → σ.i 98 k = Int32.ofNat x
/-- rows that aren't the same -/
def DjS (B : Nat × Nat × Nat × Nat × Nat) (V : Nat × Nat × Nat × Nat) : Prop := (B.2.1 ≠ V.2.2.2 ∧ B.2.2.1 ≠ V.2.2.2) ∧ (B.2.2.2.1 ≠ V.2.1 ∧ B.2.2.2.1 ≠ V.2.2.1 ∧ B.2.2.2.2 ≠ V.2.1 ∧ B.2.2.2.2 ≠ V.2.2.1)
def DjN (B : Nat × Nat × Nat × Nat × Nat) (C : Nat × Nat × Nat × Nat) (A : Nat) (σ : Sg) : Prop := ((B.2.1 ≠ sqA σ ∧ B.2.2.1 ≠ sqA σ) ∧ B.2.2.2.1 ≠ sqA σ ∧ B.2.2.2.2 ≠ sqA σ) ∧ (C.2.1 ≠ sqA σ ∧ C.2.2.1 ≠ sqA σ ∧ C.2.2.2 ≠ sqA σ) ∧ A ≠ sqA σ
/-- what is kept of calls and of choices -/
def WhN (W : Wld) (wy : Nat) (σ : Sg) : Prop := WhS W wy σ ∧ NtS W wy σ
/-- room taken by THE CLASS, after so many calls -/
def RmH (B : Nat × Nat × Nat × Nat × Nat) (C V : Nat × Nat × Nat × Nat) (m q : Nat) (sh : List Sh) : Prop := szS sh + 12232 ≤ szS sh0C + 6 * C.1 + 8 * B.1 + 6 * V.1 + 2 * m + 8 * q ∧ 12621 * sh.length + 127420 ≤ 12621 * 102 + 21 * (C.1 + 38 * B.1) + 601 * V.1 + 601 * m + 12621 * q
/-- the tape: a row of bytes -/
def TpM (A m : Nat) (σ : Sg) : Prop := (∃ k, k ≤ 5 ∧ m = 256 * 2 ^ k) ∧ ∀ k, k < m → by8 (σ.i A k)
def ClX (B : Nat × Nat × Nat × Nat × Nat) (C V : Nat × Nat × Nat × Nat) (a u A m ver : Nat) (W : Wld) (pg : Ast) (t : Nat → Int32) (n wy ch fuel rs : Nat) (rn : Option (Rs × Es)) (res : List Nat) (q : Nat) (σ : Sg) : Prop :=
  CRs B C W a σ ∧ (σ.i 1 15 = Int32.ofNat wy ∧ wy < 3) ∧ ((∃ S, SetC σ V u S) ∧ CvN C V σ ∧ LiS W σ) ∧ (NeS W σ ∧ WhN W wy σ) ∧ (σ.i 1 16 = Int32.ofNat ver ∧ ver ≤ q + 10) ∧ (DjS B V ∧ DjN B C A σ) ∧ (σ.r 0 8 = Rf.ptr A ∧ TpM A m σ ∧ TxC t n A m σ ∧ σ.i 0 9 = Int32.ofNat n) ∧
  ((σ.i 0 11 = Int32.ofNat ch ∧ ch ≤ 3) ∧ (σ.i 0 12 = Int32.ofNat fuel ∧ 1 ≤ fuel ∧ fuel ≤ 100000) ∧ σ.i 0 13 = (if pg.isNil = true then 0 else 1) ∧ (pg.isNil = false → (cdB pg false 0 0).length + 1 ≤ 901 ∧ CdH 0 C.2.1 C.2.2.1 C.2.2.2 (cdB pg false 0 0 ++ [(25, 0, 0)]) σ)) ∧
  (σ.i 40 2 = Int32.ofNat rs ∧ RnM rn σ ∧ ResC res σ) ∧ u + 18 * upN σ ≤ 500 * (q + 1) ∧ RmH B C V (m + sdN σ) q σ.sh
/-- THE CLASS between calls -/
def ClA (W : Wld) (pg : Ast) (t : Nat → Int32) (n wy ch fuel rs : Nat) (rn : Option (Rs × Es)) (res : List Nat) (q : Nat) (σ : Sg) : Prop := ∃ B C V a u A m ver, ClX B C V a u A m ver W pg t n wy ch fuel rs rn res q σ
/-- an answer of the landed code -/
def CAns (K : kS) (A : Sg → Prop) (e1 e2 : String) (r : An) : Prop := match r with
  | .inl th => ∀ τ x, A τ → K (.inr (if th = 1 then e1 else e2, x)) τ
  | .inr v => ∀ τ, A τ → K (.inl (some (.int v))) τ
section CLA
variable {Z : zT} {d : Nat} {B : Nat × Nat × Nat × Nat × Nat} {C V V' : Nat × Nat × Nat × Nat} {a u u' A m ver : Nat} {W : Wld} {pg pg' : Ast} {t t' : Nat → Int32} {n n' wy ch ch' fuel fuel' rs : Nat} {rn rn' : Option (Rs × Es)} {res res' : List Nat} {q q' : Nat} {σ τ υ : Sg} {K : kS} {E : Nat → Prop} {S : Es}
theorem XF.kp (h : XF E σ τ) : KpF E σ τ := ⟨⟨[], by rw [h.1, List.append_nil]⟩, fun a k _ => by rw [h.2.1], fun a _ q => h.2.2 a q⟩
theorem KpF.refl (E : Nat → Prop) (σ : Sg) : KpF E σ σ := (XF.refl E σ).kp
theorem KpF.mono {E' : Nat → Prop} (h : KpF E σ τ) (g : ∀ a, a < σ.sh.length → E a → E' a) : KpF E' σ τ := ⟨h.1, h.2.1, fun a ha q => h.2.2 a ha (fun z => q (g a ha z))⟩
theorem KpF.sh (h : KpF E σ τ) {b : Nat} {s : Sh} (q : σ.sh[b]? = some s) : τ.sh[b]? = some s := by
  obtain ⟨⟨dyn, e⟩, -⟩ := h
  rw [e, List.getElem?_append_left (List.getElem?_eq_some_iff.mp q).1]
  exact q
theorem KpF.fx (h : KpF E σ τ) (F : FX ΦC σ.sh σ.r) : FX ΦC τ.sh τ.r := GwF.fx (E := E) ⟨h.1, fun a k ha _ => h.2.1 a k ha, h.2.2⟩ F
theorem kp_al (E : Nat → Prop) (s : Sh) : KpF E σ (σ.al s) := ⟨⟨[s], rfl⟩, fun b k hb => if_neg (by omega), fun b hb _ => ⟨funext fun k => if_neg (by omega), funext fun k => if_neg (by omega)⟩⟩
theorem KpF.gn (h : KpF E σ τ) : GnF E σ τ := ⟨h.1, fun a k ha _ => h.2.1 a k ha, h.2.2⟩
theorem SetC.kn {S : List (Int64 × Int64)} (H : SetC σ V u S) (F : FX ΦC σ.sh σ.r) (g : GnF E σ τ) (hE : ∀ b, b < σ.sh.length → E b → ¬ seE V b) : SetC τ V u S := by
  obtain ⟨⟨⟨s1, s1'⟩, ⟨s2, s2'⟩, ⟨s3, s3'⟩, s4⟩, h2, h3, h4, h5, h6⟩ := H
  have hl := F.len
  have lt : ∀ {b : Nat} {s : Sh}, σ.sh[b]? = some s → b < σ.sh.length := fun q => (List.getElem?_eq_some_iff.mp q).1
  have e : ∀ b, b < σ.sh.length → seE V b → τ.i b = σ.i b ∧ τ.l b = σ.l b := fun b hb q => g.2.2 b hb (fun z => hE b hb z q)
  have r : ∀ k, τ.r 56 k = σ.r 56 k := fun k => g.2.1 56 k (by omega) (by omega)
  unfold SetC
  rw [(e 56 (by omega) (Or.inl rfl)).1, (e V.2.2.2 (lt s3') (Or.inr (Or.inr (Or.inr rfl)))).1, (e V.2.1 (lt s1') (Or.inr (Or.inl rfl))).2, (e V.2.2.1 (lt s2') (Or.inr (Or.inr (Or.inl rfl)))).2]
  exact ⟨⟨⟨(r 8).trans s1, g.sh s1'⟩, ⟨(r 9).trans s2, g.sh s2'⟩, ⟨(r 10).trans s3, g.sh s3'⟩, s4⟩, h2, h3, h4, h5, h6⟩
theorem SgA.kn {c b0 b1 b2 b3 : Nat} (h : SgA σ c b0 b1 b2 b3) (F : FX ΦC σ.sh σ.r) (g : GnF E σ τ) : SgA τ c b0 b1 b2 b3 := by
  obtain ⟨⟨h1, h1'⟩, ⟨h2, h2'⟩, ⟨h3, h3'⟩, ⟨h4, h4'⟩, h5⟩ := h
  have hl := F.len
  have r : ∀ k, τ.r 41 k = σ.r 41 k := fun k => g.2.1 41 k (by omega) (by omega)
  exact ⟨⟨(r 0).trans h1, g.sh h1'⟩, ⟨(r 1).trans h2, g.sh h2'⟩, ⟨(r 2).trans h3, g.sh h3'⟩, ⟨(r 3).trans h4, g.sh h4'⟩, h5⟩
theorem CoA.kn {c c0 c1 c2 : Nat} (h : CoA σ c c0 c1 c2) (F : FX ΦC σ.sh σ.r) (g : GnF E σ τ) : CoA τ c c0 c1 c2 := h.gw g.ga (by have := F.len; omega)
theorem CRs.kn (h : CRs B C W a σ) (g : GnF E σ τ) {x0 : Nat} (hE : ∀ b, b < σ.sh.length → E b → b = 0 ∨ (46 ≤ b ∧ b ≤ 101) ∨ b = x0) (hx0 : x0 = 47 ∨ 102 ≤ x0) (hC : C.2.1 ≠ x0 ∧ C.2.2.1 ≠ x0 ∧ C.2.2.2 ≠ x0) : CRs B C W a τ := by
  have F := h.1.1
  have hl := F.len
  obtain ⟨-, sa, ca, ne, -⟩ := id h.1
  obtain ⟨-, -, -, -, p0, p1, p2, -⟩ := id ca
  have cs : C.2.1 < σ.sh.length ∧ C.2.2.1 < σ.sh.length ∧ C.2.2.2 < σ.sh.length := ⟨(List.getElem?_eq_some_iff.mp ca.1.2).1, (List.getElem?_eq_some_iff.mp ca.2.1.2).1, (List.getElem?_eq_some_iff.mp ca.2.2.1.2).1⟩
  have e : ∀ b, b < σ.sh.length → (1 ≤ b ∧ b < 46) ∨ (102 ≤ b ∧ b ≠ x0) → τ.i b = σ.i b ∧ τ.l b = σ.l b := fun b hb q => g.2.2 b hb (fun z => by have := hE b hb z; omega)
  obtain ⟨x, hx, ex⟩ := h.2.2.2.2.2.2.2
  refine h.mv (g.fx F) (sa.kn F g) (ca.kn F g) ne h.2.2.2.2.2.2.1.1 ⟨h.2.2.2.1.2.2.2.1.2.1, h.2.2.2.1.2.2.2.1.2.2⟩ (fun b j q => ?_) (fun b j q => ?_) (fun j _ _ => ?_) ⟨x, hx, ?_⟩
  · unfold wlI at q
    rw [(e b (by omega) (by omega)).1]
  · rw [(e b (by omega) (by omega)).2]
  · rw [(e C.2.1 cs.1 (by omega)).1, (e C.2.2.1 cs.2.1 (by omega)).1, (e C.2.2.2 cs.2.2 (by omega)).1]
    exact ⟨rfl, rfl, rfl⟩
  · rw [(e 28 (by omega) (by omega)).1]
    exact ex
theorem TxC.kn (h : TxC t n A m σ) (g : GnF E σ τ) (hE : ¬ E A) : TxC t n A m τ := by
  obtain ⟨h1, h2, h3, h4, h5⟩ := h
  refine ⟨g.sh h1, h2, fun k hk => ?_, h4, h5⟩
  rw [(g.2.2 A (List.getElem?_eq_some_iff.mp h1).1 hE).1]
  exact h3 k hk
theorem RsM.keep {r : Rs × Es} (h : RsM r σ) (e83 : τ.i 83 = σ.i 83) (l83 : τ.l 83 = σ.l 83) (e84 : τ.i 84 4 = σ.i 84 4) (e96 : τ.i 96 = σ.i 96) (e97 : τ.i 97 = σ.i 97) : RsM r τ := by
  obtain ⟨h1, h2, h3⟩ := h
  refine ⟨h1.keep e84 (by rw [e83]) (by rw [e83]) e96 e97, by rw [e83]; exact h2, ?_⟩
  rcases r with ⟨v | v | v, S⟩
  · show τ.i 83 11 = 0 ∧ τ.i 83 12 = 1 ∧ τ.l 83 13 = v
    rw [e83, l83]
    exact h3
  · show τ.i 83 11 = 1 ∧ τ.i 83 12 = 1 ∧ τ.l 83 13 = v
    rw [e83, l83]
    exact h3
  · show τ.i 83 11 = Int32.ofNat v ∧ τ.i 83 12 = 0 ∧ (v = 4 ∨ v = 5)
    rw [e83]
    exact h3
theorem RnM.keep (h : RnM rn σ) (e83 : τ.i 83 = σ.i 83) (l83 : τ.l 83 = σ.l 83) (e84 : τ.i 84 4 = σ.i 84 4) (e96 : τ.i 96 = σ.i 96) (e97 : τ.i 97 = σ.i 97) : RnM rn τ := by
  rcases rn with _ | r
  · obtain ⟨h1, h2, h3, h4⟩ := h
    exact ⟨by rw [e83]; exact h1, by rw [e83]; exact h2, by rw [e83]; exact h3, h4.keep e84 (by rw [e83]) (by rw [e83]) e96 e97⟩
  · exact RsM.keep h e83 l83 e84 e96 e97
theorem RnM.kn (h : RnM rn σ) (F : FX ΦC σ.sh σ.r) (g : GnF E σ τ) (hE : ∀ b, b < σ.sh.length → E b → b ≠ 83 ∧ b ≠ 84 ∧ b ≠ 96 ∧ b ≠ 97) : RnM rn τ := by
  have hl := F.len
  have e : ∀ b, b < 102 → b = 83 ∨ b = 84 ∨ b = 96 ∨ b = 97 → τ.i b = σ.i b ∧ τ.l b = σ.l b := fun b hb q => g.2.2 b (by omega) (fun z => by have := hE b (by omega) z; omega)
  exact h.keep (e 83 (by omega) (by omega)).1 (e 83 (by omega) (by omega)).2 (by rw [(e 84 (by omega) (by omega)).1]) (e 96 (by omega) (by omega)).1 (e 97 (by omega) (by omega)).1
theorem ResC.kn (h : ResC res σ) (F : FX ΦC σ.sh σ.r) (g : GnF E σ τ) (h0 : τ.i 0 10 = σ.i 0 10) (hE : ∀ b, b < σ.sh.length → E b → b ≠ 98) : ResC res τ := by
  have hl := F.len
  have e := (g.2.2 98 (by omega) (fun z => hE 98 (by omega) z rfl)).1
  unfold ResC
  rw [h0, e]
  exact h
theorem SetC.kp {S : List (Int64 × Int64)} (H : SetC σ V u S) (F : FX ΦC σ.sh σ.r) (g : KpF E σ τ) (hE : ∀ b, b < σ.sh.length → E b → ¬ seE V b) : SetC τ V u S := H.kn F g.gn hE
theorem SgA.kp {c b0 b1 b2 b3 : Nat} (h : SgA σ c b0 b1 b2 b3) (F : FX ΦC σ.sh σ.r) (g : KpF E σ τ) : SgA τ c b0 b1 b2 b3 := h.kn F g.gn
theorem CoA.kp {c c0 c1 c2 : Nat} (h : CoA σ c c0 c1 c2) (F : FX ΦC σ.sh σ.r) (g : KpF E σ τ) : CoA τ c c0 c1 c2 := h.kn F g.gn
theorem CRs.kp (h : CRs B C W a σ) (g : KpF E σ τ) (hE : ∀ b, b < σ.sh.length → E b → b = 0 ∨ (46 ≤ b ∧ b ≤ 101)) : CRs B C W a τ := by
  obtain ⟨-, -, -, -, p0, p1, p2, -⟩ := id h.1.2.2.1
  exact h.kn g.gn (x0 := 47) (fun b hb z => by have := hE b hb z; omega) (Or.inl rfl) ⟨by omega, by omega, by omega⟩
theorem TxC.kp (h : TxC t n A m σ) (g : KpF E σ τ) (hE : ¬ E A) : TxC t n A m τ := h.kn g.gn hE
theorem RnM.kp (h : RnM rn σ) (F : FX ΦC σ.sh σ.r) (g : KpF E σ τ) (hE : ∀ b, b < σ.sh.length → E b → b ≠ 83 ∧ b ≠ 84 ∧ b ≠ 96 ∧ b ≠ 97) : RnM rn τ := h.kn F g.gn hE
theorem ResC.kp (h : ResC res σ) (F : FX ΦC σ.sh σ.r) (g : KpF E σ τ) (h0 : τ.i 0 10 = σ.i 0 10) (hE : ∀ b, b < σ.sh.length → E b → b ≠ 98) : ResC res τ := h.kn F g.gn h0 hE
theorem NeS.kp (h : NeS W σ) (F : FX ΦC σ.sh σ.r) (g : KpF E σ τ) (hE : ∀ b, b < σ.sh.length → E b → ¬ (46 ≤ b ∧ b ≤ 55) ∧ b ≠ sqA σ) : NeS W τ := by
  have hl := F.len
  have e : ∀ b, 46 ≤ b → b ≤ 55 → τ.i b = σ.i b ∧ τ.l b = σ.l b := fun b h1 h2 => g.2.2 b (by omega) (fun z => (hE b (by omega) z).1 ⟨h1, h2⟩)
  refine ⟨fun i j hi hj => ?_, h.2.keep (g.2.1 46 3 (by omega)) (by rw [(e 46 (by omega) (by omega)).1]) (fun s hs => g.sh hs) (g.2.2 _ h.sl (fun z => (hE _ h.sl z).2 rfl)).1⟩
  rw [(e 55 (by omega) (by omega)).2]
  exact h.1 i j hi hj
theorem WhS.kp (h : WhS W wy σ) (F : FX ΦC σ.sh σ.r) (g : KpF E σ τ) (hE : ∀ b, b < σ.sh.length → E b → b ≠ 1 ∧ ¬ (67 ≤ b ∧ b ≤ 82)) : WhS W wy τ := by
  have hl := F.len
  have e : ∀ b, (b = 1 ∨ (67 ≤ b ∧ b ≤ 82)) → τ.i b = σ.i b ∧ τ.l b = σ.l b := fun b h1 => g.2.2 b (by omega) (fun z => by have := hE b (by omega) z; omega)
  unfold WhS Rw0
  rw [(e 82 (by omega)).2, (e 68 (by omega)).1, (e 69 (by omega)).1, (e 70 (by omega)).1, (e 1 (by omega)).1]
  exact h
theorem NtS.kp (h : NtS W wy σ) (F : FX ΦC σ.sh σ.r) (g : KpF E σ τ) (hE : ∀ b, b < σ.sh.length → E b → b ≠ 1 ∧ (b < 85 ∨ 88 < b) ∧ b ≠ 101) : NtS W wy τ := h.row (fun a q => g.2.2 a (by have := F.len; omega) (fun z => by have := hE a (by have := F.len; omega) z; omega))
theorem WhN.kp (h : WhN W wy σ) (F : FX ΦC σ.sh σ.r) (g : KpF E σ τ) (hE : ∀ b, b < σ.sh.length → E b → (b ≠ 1 ∧ ¬ (67 ≤ b ∧ b ≤ 82)) ∧ (b < 85 ∨ 88 < b) ∧ b ≠ 101) : WhN W wy τ := ⟨h.1.kp F g (fun b hb z => (hE b hb z).1), h.2.kp F g (fun b hb z => ⟨(hE b hb z).1.1, (hE b hb z).2⟩)⟩
theorem ClX.fx (h : ClX B C V a u A m ver W pg t n wy ch fuel rs rn res q σ) : FX ΦC σ.sh σ.r := h.1.1.1
theorem CRs.qw (h : CRs B C W a σ) (hj : JoB W) (hw : σ.i 1 15 = Int32.ofNat wy ∧ wy < 3) (hn : C.2.1 ≠ sqA σ ∧ C.2.2.1 ≠ sqA σ ∧ C.2.2.2 ≠ sqA σ) : QwS C W wy a σ := by
  obtain ⟨⟨F, sa, ca, ne, ⟨k1, k2, k3, k4, k5⟩, ⟨q1, q2, q3, q4, q5⟩, ⟨l1, l2, l3, l4⟩⟩, h2, h3, h4, h5, h6, h7, h8⟩ := h
  obtain ⟨⟨-, s0⟩, ⟨-, s1⟩, ⟨-, s2⟩, -, p0, p1, p2, -⟩ := id ca
  refine ⟨⟨F, ⟨k1, k2, k5⟩, h2, ⟨q2, q5⟩, h4, h5, ⟨p0, p1, p2⟩⟩, h3, hw, h6, hj, l2, fun b hb => ?_⟩
  have l0 := (List.getElem?_eq_some_iff.mp s0).1
  have l1 := (List.getElem?_eq_some_iff.mp s1).1
  have l2 := (List.getElem?_eq_some_iff.mp s2).1
  rcases hb with rfl | rfl | rfl
  · exact ⟨l0, hn.1⟩
  · exact ⟨l1, hn.2.1⟩
  · exact ⟨l2, hn.2.2⟩
theorem ClX.qw (h : ClX B C V a u A m ver W pg t n wy ch fuel rs rn res q σ) (hj : JoB W) : QwS C W wy a σ := h.1.qw hj h.2.1 h.2.2.2.2.2.1.2.2.1
theorem ClX.lq (h : ClX B C V a u A m ver W pg t n wy ch fuel rs rn res q σ) (hj : JoB W) : LqS C W wy a V u σ := ⟨h.qw hj, h.2.2.1.2.1, h.2.2.1.1, h.2.2.1.2.2⟩
theorem CvN.kn (h : CvN C V σ) (hgl : σ.sh.length ≤ τ.sh.length) (hsq : sqA τ = sqA σ ∨ σ.sh.length ≤ sqA τ) (nsl : sqA τ < τ.sh.length) (vs : V.2.1 < σ.sh.length ∧ V.2.2.1 < σ.sh.length ∧ V.2.2.2 < σ.sh.length) : CvN C V τ := by
  obtain ⟨h1, h2, h3, h4, h5, h6⟩ := h
  refine ⟨fun b hb => ?_, by omega, nsl, by omega, by omega, by omega⟩
  have := h1 b hb
  omega
theorem DjN.kn (h : DjN B C A σ) (hsq : sqA τ = sqA σ ∨ σ.sh.length ≤ sqA τ) (bs : B.2.1 < σ.sh.length ∧ B.2.2.1 < σ.sh.length ∧ B.2.2.2.1 < σ.sh.length ∧ B.2.2.2.2 < σ.sh.length) (cs : C.2.1 < σ.sh.length ∧ C.2.2.1 < σ.sh.length ∧ C.2.2.2 < σ.sh.length) (as : A < σ.sh.length) : DjN B C A τ := by
  unfold DjN at *
  omega
/-- what isn't written stays known -/
theorem ClX.kn (h : ClX B C V a u A m ver W pg t n wy ch fuel rs rn res q σ) (g : GnF E σ τ) (hsq : sqA τ = sqA σ ∨ σ.sh.length ≤ sqA τ) (hE : ∀ b, b < σ.sh.length → E b → b = 0 ∨ (46 ≤ b ∧ b ≤ 55) ∨ (67 ≤ b ∧ b ≤ 99) ∨ b = sqA σ) (ne : NeS W τ ∧ WhN W wy τ) (tp : TxC t' n' A m τ ∧ τ.i 0 9 = Int32.ofNat n') (hs : (τ.i 0 11 = Int32.ofNat ch' ∧ ch' ≤ 3) ∧ (τ.i 0 12 = Int32.ofNat fuel' ∧ 1 ≤ fuel' ∧ fuel' ≤ 100000) ∧ τ.i 0 13 = (if pg'.isNil = true then 0 else 1)) (hp : pg'.isNil = false → (cdB pg' false 0 0).length + 1 ≤ 901 ∧ CdH 0 C.2.1 C.2.2.1 C.2.2.2 (cdB pg' false 0 0 ++ [(25, 0, 0)]) σ) (rr : RnM rn' τ ∧ ResC res' τ) (hq : q ≤ q') (rm : RmH B C V (m + sdN τ) q' τ.sh) : ClX B C V a u A m ver W pg' t' n' wy ch' fuel' rs rn' res' q' τ := by
  have F := h.fx
  have hl := F.len
  obtain ⟨h1, h2, ⟨⟨S, h3⟩, h4, h5⟩, h6, h7, ⟨h8, h8'⟩, ⟨h9, h9', h9''⟩, -, ⟨h10, -⟩, h11, h12⟩ := id h
  have sq := h6.1.sq
  have dj := h8'
  unfold DjN at dj
  have e : ∀ b, b < σ.sh.length → (1 ≤ b ∧ b ≤ 45) ∨ (56 ≤ b ∧ b ≤ 66) ∨ (100 ≤ b ∧ b ≠ sqA σ) → τ.i b = σ.i b ∧ τ.l b = σ.l b := fun b hb q => g.2.2 b hb (fun z => by have := hE b hb z; omega)
  have ca := h1.1.2.2.1
  have cs : C.2.1 < σ.sh.length ∧ C.2.2.1 < σ.sh.length ∧ C.2.2.2 < σ.sh.length := ⟨(List.getElem?_eq_some_iff.mp ca.1.2).1, (List.getElem?_eq_some_iff.mp ca.2.1.2).1, (List.getElem?_eq_some_iff.mp ca.2.2.1.2).1⟩
  obtain ⟨-, -, -, -, p0, p1, p2, -⟩ := id ca
  obtain ⟨-, -, -, -, v1, v2, v3, -⟩ := id h3.1
  have e1 := (e 1 (by omega) (by omega)).1
  have e57 := (e 57 (by omega) (by omega)).1
  have nsl := ne.1.sl
  have hgl := g.len
  have bs : B.2.1 < σ.sh.length ∧ B.2.2.1 < σ.sh.length ∧ B.2.2.2.1 < σ.sh.length ∧ B.2.2.2.2 < σ.sh.length := ⟨(List.getElem?_eq_some_iff.mp h1.1.2.1.1.2).1, (List.getElem?_eq_some_iff.mp h1.1.2.1.2.1.2).1, (List.getElem?_eq_some_iff.mp h1.1.2.1.2.2.1.2).1, (List.getElem?_eq_some_iff.mp h1.1.2.1.2.2.2.1.2).1⟩
  have vs : V.2.1 < σ.sh.length ∧ V.2.2.1 < σ.sh.length ∧ V.2.2.2 < σ.sh.length := ⟨(List.getElem?_eq_some_iff.mp h3.1.1.2).1, (List.getElem?_eq_some_iff.mp h3.1.2.1.2).1, (List.getElem?_eq_some_iff.mp h3.1.2.2.1.2).1⟩
  have as := (List.getElem?_eq_some_iff.mp h9''.1.1).1
  refine ⟨h1.kn g (x0 := sqA σ) (fun b hb z => by have := hE b hb z; omega) sq dj.2.1, ⟨by rw [e1]; exact h2.1, h2.2⟩, ⟨⟨S, h3.kn F g (fun b hb z z' => by have := hE b hb z; have := h4.2; unfold seE at z'; omega)⟩, h4.kn hgl hsq nsl vs, h5.keep e57 (by rw [e1]) (e 62 (by omega) (by omega)).1 (e 63 (by omega) (by omega)).1 (e 58 (by omega) (by omega)).2 (e 59 (by omega) (by omega)).2 (e 60 (by omega) (by omega)).2 (e 61 (by omega) (by omega)).2⟩, ne, ⟨by rw [e1]; exact h7.1, by omega⟩, ⟨h8, h8'.kn hsq bs cs as⟩, ⟨(g.2.1 0 8 (by omega) (by omega)).trans h9, ⟨h9'.1, fun k hk => by rw [(e A as (by have := h9''.1.2.2.2.2; omega)).1]; exact h9'.2 k hk⟩, tp⟩, ⟨hs.1, hs.2.1, hs.2.2, fun z => ?_⟩, ⟨by rw [(e 40 (by omega) (by omega)).1]; exact h10, rr⟩, ?_, rm⟩
  · obtain ⟨z1, z2⟩ := hp z
    refine ⟨z1, fun j q hq => ?_⟩
    rw [(e C.2.1 cs.1 (by omega)).1, (e C.2.2.1 cs.2.1 (by omega)).1, (e C.2.2.2 cs.2.2 (by omega)).1]
    exact z2 j q hq
  · have := upN_cg (σ := σ) (τ := τ) e57 (by rw [e1])
    omega
theorem ClX.kp (h : ClX B C V a u A m ver W pg t n wy ch fuel rs rn res q σ) (g : KpF E σ τ) (hE : ∀ b, b < σ.sh.length → E b → b = 0 ∨ (46 ≤ b ∧ b ≤ 55) ∨ (67 ≤ b ∧ b ≤ 99)) (ne : NeS W τ ∧ WhN W wy τ) (tp : TxC t' n' A m τ ∧ τ.i 0 9 = Int32.ofNat n') (hs : (τ.i 0 11 = Int32.ofNat ch' ∧ ch' ≤ 3) ∧ (τ.i 0 12 = Int32.ofNat fuel' ∧ 1 ≤ fuel' ∧ fuel' ≤ 100000) ∧ τ.i 0 13 = (if pg'.isNil = true then 0 else 1)) (hp : pg'.isNil = false → (cdB pg' false 0 0).length + 1 ≤ 901 ∧ CdH 0 C.2.1 C.2.2.1 C.2.2.2 (cdB pg' false 0 0 ++ [(25, 0, 0)]) σ) (rr : RnM rn' τ ∧ ResC res' τ) (hq : q ≤ q') (rm : RmH B C V (m + sdN τ) q' τ.sh) : ClX B C V a u A m ver W pg' t' n' wy ch' fuel' rs rn' res' q' τ := h.kn g.gn (Or.inl (sqA_g (g.2.1 46 3 (by have := h.fx.len; omega)))) (fun b hb z => by have := hE b hb z; omega) ne tp hs hp rr hq rm
theorem RmH.up (h : RmH B C V m q σ.sh) : RmH B C V m (q + 1) σ.sh := ⟨by have := h.1; omega, by have := h.2; omega⟩
theorem RmH.al (h : RmH B C V m q σ.sh) : RmH B C V m (q + 1) (σ.al (Sh.jnk 6)).sh := by
  obtain ⟨h1, h2⟩ := h
  have e : (σ.al (Sh.jnk 6)).sh = σ.sh ++ [Sh.jnk 6] := rfl
  refine ⟨?_, ?_⟩
  · rw [e, szS_app]
    have : szS [Sh.jnk 6] = 6 := rfl
    omega
  · rw [e, List.length_append, List.length_singleton]
    omega
/-- rows that nobody reads -/
theorem ClX.km (h : ClX B C V a u A m ver W pg t n wy ch fuel rs rn res q σ) (g : GnF E σ τ) (hsq : sqA τ = sqA σ ∨ σ.sh.length ≤ sqA τ) (hE : ∀ b, b < σ.sh.length → E b → (46 ≤ b ∧ b ≤ 55) ∨ (67 ≤ b ∧ b ≤ 82) ∨ b = 99 ∨ b = sqA σ) (ne : NeS W τ ∧ WhN W wy τ) (hq : q ≤ q') (rm : RmH B C V (m + sdN τ) q' τ.sh) : ClX B C V a u A m ver W pg t n wy ch fuel rs rn res q' τ := by
  have F := h.fx
  have hl := F.len
  have sq := h.2.2.2.1.1.sq
  have dj := h.2.2.2.2.2.1.2.2.2
  obtain ⟨-, -, -, -, -, -, ⟨-, -, h9, h9'⟩, ⟨c1, c2, c3, c4⟩, ⟨-, r1, r2⟩, -⟩ := id h
  have e0 := (g.2.2 0 (by omega) (fun z => by have := hE 0 (by omega) z; omega)).1
  refine h.kn g hsq (fun b hb z => by have := hE b hb z; omega) ne ⟨h9.kn g (fun z => ?_), by rw [e0]; exact h9'⟩ ⟨⟨by rw [e0]; exact c1.1, c1.2⟩, ⟨by rw [e0]; exact c2.1, c2.2⟩, by rw [e0]; exact c3⟩ c4 ⟨r1.kn F g (fun b hb z => by have := hE b hb z; omega), r2.kn F g (by rw [e0]) (fun b hb z => by have := hE b hb z; omega)⟩ hq rm
  have := hE A (List.getElem?_eq_some_iff.mp h9.1).1 z
  have := h9.2.2.2.2
  omega
theorem ClX.kq (h : ClX B C V a u A m ver W pg t n wy ch fuel rs rn res q σ) (g : KpF E σ τ) (hE : ∀ b, b < σ.sh.length → E b → (46 ≤ b ∧ b ≤ 55) ∨ (67 ≤ b ∧ b ≤ 82) ∨ b = 99) (ne : NeS W τ ∧ WhN W wy τ) (hq : q ≤ q') (rm : RmH B C V (m + sdN τ) q' τ.sh) : ClX B C V a u A m ver W pg t n wy ch fuel rs rn res q' τ := h.km g.gn (Or.inl (sqA_g (g.2.1 46 3 (by have := h.fx.len; omega)))) (fun b hb z => by have := hE b hb z; omega) ne hq rm
theorem sdN_al {s : Sh} (F : FX ΦC σ.sh σ.r) : sdN (σ.al s) = sdN σ := by
  have := F.len
  unfold sdN
  rw [show (σ.al s).i 46 2 = σ.i 46 2 from if_neg (by omega)]
/-- nothing happened, or something was thrown -/
theorem ClA.up (h : ClA W pg t n wy ch fuel rs rn res q σ) : ClA W pg t n wy ch fuel rs rn res (q + 1) σ := by
  obtain ⟨B, C, V, a, u, A, m, ver, h⟩ := h
  exact ⟨B, C, V, a, u, A, m, ver, h.kq (KpF.refl (fun _ => False) σ) (fun _ _ z => z.elim) h.2.2.2.1 (Nat.le_succ _) (h.2.2.2.2.2.2.2.2.2.2.up)⟩
theorem ClA.al (h : ClA W pg t n wy ch fuel rs rn res q σ) : ClA W pg t n wy ch fuel rs rn res (q + 1) (σ.al (Sh.jnk 6)) := by
  obtain ⟨B, C, V, a, u, A, m, ver, h⟩ := h
  have F := h.fx
  have g : KpF (fun _ => False) σ (σ.al (Sh.jnk 6)) := kp_al _ _
  exact ⟨B, C, V, a, u, A, m, ver, h.kq g (fun _ _ z => z.elim) ⟨h.2.2.2.1.1.kp F g (fun _ _ z => z.elim), h.2.2.2.1.2.kp F g (fun _ _ z => z.elim)⟩ (Nat.le_succ _) (by rw [sdN_al F]; exact h.2.2.2.2.2.2.2.2.2.2.al)⟩
theorem ClA.fx (h : ClA W pg t n wy ch fuel rs rn res q σ) : FX ΦC σ.sh σ.r := by
  obtain ⟨B, C, V, a, u, A, m, ver, h⟩ := h
  exact h.fx
end CLA

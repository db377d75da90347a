/-! WHAT STAYS: the shapes of the first cells, the references that are never written again -/
abbrev Fix : Type := List Sh × (Nat → Nat → Bool) × (Nat → Nat → Rf)
abbrev Fix.sh0 (Φ : Fix) : List Sh := Φ.1
abbrev Fix.cst (Φ : Fix) : Nat → Nat → Bool := Φ.2.1
abbrev Fix.r0 (Φ : Fix) : Nat → Nat → Rf := Φ.2.2
def FX (Φ : Fix) (sh : List Sh) (r : Nat → Nat → Rf) : Prop := (∃ dyn, sh = Φ.sh0 ++ dyn) ∧ ∀ a k, Φ.cst a k = true → r a k = Φ.r0 a k
theorem FX.s {Φ : Fix} {sh : List Sh} {r : Nat → Nat → Rf} (F : FX Φ sh r) {a : Nat} {s : Sh} (h : Φ.sh0[a]? = some s) : sh[a]? = some s := by
  obtain ⟨⟨dyn, rfl⟩, -⟩ := F
  rw [List.getElem?_append_left (List.getElem?_eq_some_iff.mp h).1]
  exact h
theorem FX.r {Φ : Fix} {sh : List Sh} {r : Nat → Nat → Rf} (F : FX Φ sh r) {a k : Nat} (h : Φ.cst a k = true) : r a k = Φ.r0 a k := F.2 a k h
theorem FX.w {Φ : Fix} {sh : List Sh} {r : Nat → Nat → Rf} (F : FX Φ sh r) {a k : Nat} {v : Rf} (h : Φ.cst a k = false) : FX Φ sh (up r a k v) := by
  refine ⟨F.1, fun b j hb => ?_⟩
  rw [up_ne (fun q => by rw [q.1, q.2, h] at hb; cases hb)]
  exact F.2 b j hb
/-- what is asked of a heap's end, said of its functions -/
def lf (Φ : Fix) (K : ab_RX → Sg → Prop) : kX := fun r h => ∃ σ, h = conc σ ∧ FX Φ σ.sh σ.r ∧ K r σ
abbrev kS : Type := ab_RX → Sg → Prop
def yI (X : kS) (R : Int32 → Sg → Prop) : kS
  | .inl (some (.int x)), h => R x h
  | .inr p, h => X (.inr p) h
  | _, _ => False
def yL (X : kS) (R : Int64 → Sg → Prop) : kS
  | .inl (some (.long x)), h => R x h
  | .inr p, h => X (.inr p) h
  | _, _ => False
def yR (X : kS) (R : Nat → Sg → Prop) : kS
  | .inl (some (.ref a)), h => R a h
  | .inr p, h => X (.inr p) h
  | _, _ => False
def yW (X : kS) (R : Rf → Sg → Prop) : kS := fun r h => (∃ x, r = .inl (some (rv x)) ∧ R x h) ∨ ∃ p, r = .inr p ∧ X (.inr p) h
def yN (X : kS) (R : Sg → Prop) : kS
  | .inl none, h => R h
  | .inr p, h => X (.inr p) h
  | _, _ => False
def y0 : kS := fun _ _ => False
/-- what is thrown goes through here -/
def hY (Φ : Fix) (X : kS) (G : ab_G) (T : ab_GT) (d : Nat) (M : ab_MX) (pc : Nat) (lv : ab_L) (rest : List Value) (sp : Bool) (Q : kX) : Prop := ∀ p σ, FX Φ σ.sh σ.r → X (.inr p) σ → ab_bk G T d M pc lv rest sp Q (.inr p) (conc σ)
section FIX
variable {Φ : Fix} {G : ab_G} {T : ab_GT} {d : Nat} {M : ab_MX} {pc : Nat} {lv : ab_L} {st : List Value} {σ : Sg} {Q : kX} {K X : kS}
theorem hY_no {rest : List Value} (hh : ∀ E, ab_hd T (ab_mo M.1) E pc M.2 = some none) : hY Φ K G T d M pc lv rest false (lf Φ K) := by
  intro p σ F q
  refine ⟨rfl, ?_⟩
  rw [hh]
  exact ⟨σ, rfl, F, q⟩
theorem hY_0 {rest : List Value} {sp : Bool} : hY Φ y0 G T d M pc lv rest sp Q := by
  intro p σ F q
  cases q
/-- what a handler asks -/
def bS (Φ : Fix) (G : ab_G) (T : ab_GT) (d : Nat) (M : ab_MX) (pc : Nat) (lv : ab_L) (K : kS) : kS
  | .inr (E, q), σ => match ab_hd T (ab_mo M.1) E pc M.2 with
    | some (some hp) => ab_fin G T (d + 1) M hp lv [.ref q] (conc σ) (lf Φ K)
    | some none => K (.inr (E, q)) σ
    | none => False
  | _, _ => False
theorem hY_b {rest : List Value} : hY Φ (bS Φ G T d M pc lv K) G T d M pc lv rest false (lf Φ K) := by
  rintro ⟨E, q⟩ σ F h
  refine ⟨rfl, ?_⟩
  unfold bS at h
  split
  · rename_i hp e
    simp only [e] at h
    exact h
  · rename_i e
    simp only [e] at h
    exact ⟨σ, rfl, F, h⟩
  · rename_i e
    simp only [e] at h
section CALL
variable {i : Instr} {k y pc' : Nat} {As rest : List Value} {M' : ab_MX} {lv2 : ab_L}
theorem ab_fin.q_yI {R : Int32 → Sg → Prop} (hd : decode (ab_mc M.1) pc = .ok (i, k)) (hc : ab_call G (ab_mo M.1) (conc σ) i k st = some (y, As, rest)) (hM : ab_mx G T y = some M') (hl : (lg_sl As).length ≤ ab_mL M'.1) (hlv : lv_args 0 As = lv2) (hp : pc + 3 = pc') (hx : hY Φ X G T d M pc lv rest (ab_sp i) Q) (e : ab_fin G T d M' 0 lv2 [] (conc σ) (lf Φ (yI X R))) (n : ∀ x τ, FX Φ τ.sh τ.r → R x τ → ab_fin G T (d + 1) M pc' lv (.int x :: rest) (conc τ) Q) : ab_fin G T (d + 1) M pc lv st (conc σ) Q := by
  subst hlv
  subst hp
  refine ab_fin.call hd hc hM hl (e.mono ?_)
  rintro r h1 ⟨τ, rfl, F, q⟩
  unfold yI at q
  split at q
  · exact n _ _ F q
  · exact hx _ _ F q
  · cases q
theorem ab_fin.q_yL {R : Int64 → Sg → Prop} (hd : decode (ab_mc M.1) pc = .ok (i, k)) (hc : ab_call G (ab_mo M.1) (conc σ) i k st = some (y, As, rest)) (hM : ab_mx G T y = some M') (hl : (lg_sl As).length ≤ ab_mL M'.1) (hlv : lv_args 0 As = lv2) (hp : pc + 3 = pc') (hx : hY Φ X G T d M pc lv rest (ab_sp i) Q) (e : ab_fin G T d M' 0 lv2 [] (conc σ) (lf Φ (yL X R))) (n : ∀ x τ, FX Φ τ.sh τ.r → R x τ → ab_fin G T (d + 1) M pc' lv (.long x :: rest) (conc τ) Q) : ab_fin G T (d + 1) M pc lv st (conc σ) Q := by
  subst hlv
  subst hp
  refine ab_fin.call hd hc hM hl (e.mono ?_)
  rintro r h1 ⟨τ, rfl, F, q⟩
  unfold yL at q
  split at q
  · exact n _ _ F q
  · exact hx _ _ F q
  · cases q
theorem ab_fin.q_yR {R : Nat → Sg → Prop} (hd : decode (ab_mc M.1) pc = .ok (i, k)) (hc : ab_call G (ab_mo M.1) (conc σ) i k st = some (y, As, rest)) (hM : ab_mx G T y = some M') (hl : (lg_sl As).length ≤ ab_mL M'.1) (hlv : lv_args 0 As = lv2) (hp : pc + 3 = pc') (hx : hY Φ X G T d M pc lv rest (ab_sp i) Q) (e : ab_fin G T d M' 0 lv2 [] (conc σ) (lf Φ (yR X R))) (n : ∀ x τ, FX Φ τ.sh τ.r → R x τ → ab_fin G T (d + 1) M pc' lv (.ref x :: rest) (conc τ) Q) : ab_fin G T (d + 1) M pc lv st (conc σ) Q := by
  subst hlv
  subst hp
  refine ab_fin.call hd hc hM hl (e.mono ?_)
  rintro r h1 ⟨τ, rfl, F, q⟩
  unfold yR at q
  split at q
  · exact n _ _ F q
  · exact hx _ _ F q
  · cases q
theorem ab_fin.q_yW {R : Rf → Sg → Prop} (hd : decode (ab_mc M.1) pc = .ok (i, k)) (hc : ab_call G (ab_mo M.1) (conc σ) i k st = some (y, As, rest)) (hM : ab_mx G T y = some M') (hl : (lg_sl As).length ≤ ab_mL M'.1) (hlv : lv_args 0 As = lv2) (hp : pc + 3 = pc') (hx : hY Φ X G T d M pc lv rest (ab_sp i) Q) (e : ab_fin G T d M' 0 lv2 [] (conc σ) (lf Φ (yW X R))) (n : ∀ x τ, FX Φ τ.sh τ.r → R x τ → ab_fin G T (d + 1) M pc' lv (rv x :: rest) (conc τ) Q) : ab_fin G T (d + 1) M pc lv st (conc σ) Q := by
  subst hlv
  subst hp
  refine ab_fin.call hd hc hM hl (e.mono ?_)
  rintro r h1 ⟨τ, rfl, F, q⟩
  rcases q with ⟨x, rfl, q⟩ | ⟨p, rfl, q⟩
  · exact n _ _ F q
  · exact hx _ _ F q
theorem ab_fin.q_yN {R : Sg → Prop} (hd : decode (ab_mc M.1) pc = .ok (i, k)) (hc : ab_call G (ab_mo M.1) (conc σ) i k st = some (y, As, rest)) (hM : ab_mx G T y = some M') (hl : (lg_sl As).length ≤ ab_mL M'.1) (hlv : lv_args 0 As = lv2) (hp : pc + 3 = pc') (hx : hY Φ X G T d M pc lv rest (ab_sp i) Q) (e : ab_fin G T d M' 0 lv2 [] (conc σ) (lf Φ (yN X R))) (n : ∀ τ, FX Φ τ.sh τ.r → R τ → ab_fin G T (d + 1) M pc' lv rest (conc τ) Q) : ab_fin G T (d + 1) M pc lv st (conc σ) Q := by
  subst hlv
  subst hp
  refine ab_fin.call hd hc hM hl (e.mono ?_)
  rintro r h1 ⟨τ, rfl, F, q⟩
  unfold yN at q
  split at q
  · exact n _ F q
  · exact hx _ _ F q
  · cases q
end CALL
theorem ab_fin.q_ret {i : Instr} {k : Nat} {v : Option Value} (hd : decode (ab_mc M.1) pc = .ok (i, k)) (hr : ab_ret (ab_mr M.1) i k st = some v) (F : FX Φ σ.sh σ.r) (q : K (.inl v) σ) : ab_fin G T d M pc lv st (conc σ) (lf Φ K) := ab_fin.ret _ hd hr ⟨σ, rfl, F, q⟩
theorem ab_fin.q_rtN {x : Int32} {ty : FieldType} {r : List Value} (hd : decode (ab_mc M.1) pc = .ok (.ireturn, 1)) (hr : ab_ret (ab_mr M.1) .ireturn 1 (.int x :: r) = if narrow ty (.int x) = .int x then some (some (.int x)) else none) (hn : narrow ty (.int x) = .int x) (F : FX Φ σ.sh σ.r) (q : K (.inl (some (.int x))) σ) : ab_fin G T d M pc lv (.int x :: r) (conc σ) (lf Φ K) := ab_fin.q_retN hd hr hn ⟨σ, rfl, F, q⟩
end FIX
theorem nRv_n {s : String} {x : Rf} : narrow (.object s) (rv x) = rv x := nR_n (oR_rv x)
theorem nRv_f {s : String} {x : Rf} : fits (.object s) (ab_un (rv x)) = true := nR_f (oR_rv x)
/-- a narrow number -/
def nz (ty : FieldType) (x : Int32) : Prop := narrow ty (.int x) = .int x ∧ fits ty (.int x) = true

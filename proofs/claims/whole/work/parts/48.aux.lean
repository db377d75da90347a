/-! what the printed conditions over functions need -/
section AUX
variable {σ : Sg} {a n k : Nat} {x : Int32}
theorem c_eI' (h : σ.sh[a]? = some (Sh.arr 0 n)) (b : ib x n) (hk : x.toNatClampNeg = k) : eI (conc σ) a x (σ.i a k) := by
  subst hk
  exact c_eI h b
theorem c_eL' (h : σ.sh[a]? = some (Sh.arr 1 n)) (b : ib x n) (hk : x.toNatClampNeg = k) : eL (conc σ) a x (σ.l a k) := by
  subst hk
  exact c_eL h b
theorem c_eB2' (h : σ.sh[a]? = some (Sh.arr 2 n)) (b : ib x n) (hk : x.toNatClampNeg = k) : eB (conc σ) a x (σ.i a k) := by
  subst hk
  exact c_eB2 h b
theorem c_eB3' (h : σ.sh[a]? = some (Sh.arr 3 n)) (b : ib x n) (hk : x.toNatClampNeg = k) : eB (conc σ) a x (σ.i a k) := by
  subst hk
  exact c_eB3 h b
theorem c_eA' {t b : Nat} (h : σ.sh[a]? = some (Sh.arr t n)) (ht : 4 ≤ t) (ho : (hb_O (t - 4)).map (fun t => t.isReference) = some true) (bd : ib x n) (hk : x.toNatClampNeg = k) (q : σ.r a k = .ptr b) : eA (conc σ) a x b := by
  subst hk
  exact c_eA h ht ho bd q
theorem c_eN' {t : Nat} {m : Int32} (h : σ.sh[a]? = some (Sh.arr t n)) (ht : t < 4 ∨ (hb_O (t - 4)).isSome = true) (hm : Int32.ofNat n = m) : eN (conc σ) a m := by
  subst hm
  exact c_eN h ht
theorem c_sI' {v : Int32} (h : σ.sh[a]? = some (Sh.arr 0 n)) (b : ib x n) (hk : x.toNatClampNeg = k) : sI (conc σ) a x v (conc (σ.wi a k v)) := by
  subst hk
  exact c_sI h b
theorem c_sL' {v : Int64} (h : σ.sh[a]? = some (Sh.arr 1 n)) (b : ib x n) (hk : x.toNatClampNeg = k) : sL (conc σ) a x v (conc (σ.wl a k v)) := by
  subst hk
  exact c_sL h b
theorem c_sB2' {v : Int32} (h : σ.sh[a]? = some (Sh.arr 2 n)) (b : ib x n) (hk : x.toNatClampNeg = k) : sB (conc σ) a x v (conc (σ.wi a k (vp_nar .byte v))) := by
  subst hk
  exact c_sB (t := 2) (Or.inl rfl) h b
theorem c_sB3' {v : Int32} (h : σ.sh[a]? = some (Sh.arr 3 n)) (b : ib x n) (hk : x.toNatClampNeg = k) : sB (conc σ) a x v (conc (σ.wi a k (vp_nar .boolean v))) := by
  subst hk
  exact c_sB (t := 3) (Or.inr rfl) h b
theorem c_sA' {t v cv : Nat} (ht : 4 ≤ t) (h : σ.sh[a]? = some (Sh.arr t n)) (hv : σ.sh[v]? = some (Sh.obj cv)) (hc : ((vwCl)[cv]?).map (fun z => FieldType.object z.1) = hb_O (t - 4)) (hs : (hb_O (t - 4)).isSome = true) (b : ib x n) (hk : x.toNatClampNeg = k) : sA (conc σ) a x v (conc (σ.wr a k (.ptr v))) := by
  subst hk
  exact c_sA ht h hv hc hs b
end AUX
theorem cMg {a k : Nat} (p : sh0R[a]? = some (Sh.obj 24)) (hk : k = 10 ∨ k = 25 ∨ k = 34 ∨ k = 51) : ΦR.cst a k = false := by
  show cstR a k = false
  unfold cstR
  rw [p]
  rcases hk with rfl | rfl | rfl | rfl <;> rfl
theorem cM_10 : ΦR.cst 0 10 = false := cMg s0_0 (Or.inl rfl)
theorem cM_25 : ΦR.cst 0 25 = false := cMg s0_0 (Or.inr (Or.inl rfl))
theorem cM_34 : ΦR.cst 0 34 = false := cMg s0_0 (Or.inr (Or.inr (Or.inl rfl)))
theorem cM_51 : ΦR.cst 0 51 = false := cMg s0_0 (Or.inr (Or.inr (Or.inr rfl)))
theorem cO_19_8 {a : Nat} (p : sh0R[a]? = some (Sh.obj 19)) : ΦR.cst a 8 = false := by show cstR a 8 = false; unfold cstR; rw [p]; rfl
theorem cO_19_9 {a : Nat} (p : sh0R[a]? = some (Sh.obj 19)) : ΦR.cst a 9 = false := by show cstR a 9 = false; unfold cstR; rw [p]; rfl
theorem cEg {a t k : Nat} (p : sh0R[a]? = some (Sh.arr t 42)) (ht : t = 6 ∨ t = 13) : ΦR.cst a k = false := by
  show cstR a k = false
  unfold cstR
  rw [p]
  rcases ht with rfl | rfl <;> rfl
theorem cE_2179 {k : Nat} : ΦR.cst 2179 k = false := cEg s0_2179 (Or.inl rfl)
theorem cE_2180 {k : Nat} : ΦR.cst 2180 k = false := cEg s0_2180 (Or.inr rfl)
/-- a Node is none of the first cells -/
theorem cD {sh : List Sh} {r : Nat → Nat → Rf} {a k ci : Nat} (F : FX ΦR sh r) (h : sh[a]? = some (Sh.obj ci)) (hc : ci = 21) : ΦR.cst a k = false := by
  subst hc
  show cstR a k = false
  unfold cstR
  cases e : sh0R[a]? with
  | none => rfl
  | some s =>
    have := F.s (a := a) e
    rw [h] at this
    cases this
    rfl
/-- the class of what is thrown -/
def aT (σ : Sg) (a : Nat) (E : String) : Prop := ∃ ci q, σ.sh[a]? = some (Sh.obj ci) ∧ vwCl[ci]? = some q ∧ q.1 = E
theorem aT_ok {σ τ : Sg} {a : Nat} {E : String} {z : Option Value × Option Value × Option Value} {x0 : Option (Nat × Nat × (Nat → Value))} {r : List Value} (q : aT σ a E) (hs : τ.sh = σ.sh := by rfl) : ab_ath (hb_Gz z x0) (conc τ) .athrow 1 (.ref a :: r) = some (E, a) := by
  obtain ⟨ci, q, h1, h2, rfl⟩ := q
  rw [← hs] at h1
  simp only [ab_ath, conc_get h1, sg_c_obj]
  rw [show (ab_gK (hb_Gz z x0))[ci]? = some q from h2]
  rfl
theorem ab_gto {off : Int} {pc t : Nat} {r : List Value} (ht : ab_t pc off = some t) : ab_s3 (.goto off) 3 pc r = some (t, r) := by
  simp only [ab_s3, ht]
  rfl

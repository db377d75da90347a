/-! THE REFERENCE BETWEEN CALLS: what choosing wants of it -/
section REST
variable {W : Wld} {pg : Ast} {t : Nat → Int32} {n m : Nat} {lst : List Nat} {cap m7 : Nat} {lst7 : List Nat} {cap7 wy : Nat} {σ τ : Sg}
theorem RefR.nw (R : RefR W pg t n m lst cap m7 lst7 cap7 σ) (hw : σ.i 0 83 = Int32.ofNat wy ∧ wy < 3) : NwS W lst m wy σ := by
  refine ⟨R.fx, R.w3, R.mn, R.ms, fun a b ha hb => ?_, hw⟩
  rw [R.rb.1 a b ha hb]
  unfold blW
  by_cases q : b ∈ rwW W.1 1 a
  · rw [if_pos q, if_pos (decide_eq_true q)]
  · rw [if_neg q, if_neg (by rw [decide_eq_false q]; decide)]
theorem RefR.wk (R : RefR W pg t n m lst cap m7 lst7 cap7 σ) : WkS W σ := ⟨R.fx, R.w3, R.rb, R.mn.2⟩
/-- nothing is kept -/
theorem MmR.new (h : ∀ k, k < 8192 → σ.i 2069 k = -1) : MmR W wy σ := by
  intro a m n k ha hm hn hk _ _ hkey
  exfalso
  rw [h a ha] at hkey
  have b0 := hk 0
  have b1 := hk 1
  have b2 := hk 2
  have hl : kyN m n k < 2147483648 := by
    unfold kyN
    omega
  have := congrArg Int32.toInt hkey
  rw [oN_i hl] at this
  have : (-1 : Int) = (kyN m n k : Int) := this
  omega
theorem OrR.new (h : ∀ c, c < W.2.1.length → σ.i 1931 c = -1) : OrR W σ := fun c hc => Or.inl (h c hc)
theorem OrR.same (h : OrR W σ) (e : τ.i 1931 = σ.i 1931) : OrR W τ := fun c hc => by
  rw [e]
  exact h c hc
/-- a step -/
theorem rf_step {Z : zT} {d fuel s : Nat} {K : kS} (F : FX ΦR σ.sh σ.r) (h80 : σ.i 0 80 = Int32.ofNat s) (h81 : σ.i 0 81 = Int32.ofNat fuel) (hs : s ≤ fuel) (hf : fuel ≤ 100000) (h1 : s ≠ fuel → K (.inl none) (σ.wi 0 80 (Int32.ofNat (s + 1)))) (h0 : s = fuel → K (.inr ("DispatchHouseModel$Ended", 2133)) (σ.wi 0 79 4)) : B_X23_step_0 Z (d + 2) σ K := by
  refine S_X23_step_0 F ⟨fun z => ?_, fun z => ?_⟩
  · rw [h80, h81, oN_eq (by omega) (by omega)] at z
    rw [h80, oN_1]
    exact h1 z
  · rw [h80, h81, oN_eq (by omega) (by omega)] at z
    exact rf_ends F (h0 z)
end REST

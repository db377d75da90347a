/-! A HEAP AS FUNCTIONS, with what stays -/
def fxc (Φ : Fix) (h : List ab_E) : Sg := (h.map unS, fun a k => unI h[a]? k, fun a k => unL h[a]? k, fun a k => if Φ.cst a k = true then Φ.r0 a k else unR h[a]? k)
theorem fxc_r {Φ : Fix} {h : List ab_E} {a k : Nat} (q : Φ.cst a k = true → Φ.r0 a k = unR h[a]? k) : (fxc Φ h).r a k = (unc h).r a k := by
  show (if Φ.cst a k = true then Φ.r0 a k else unR h[a]? k) = unR h[a]? k
  split
  · rename_i z
    exact q z
  · rfl
theorem conc_fxc {Φ : Fix} {h : List ab_E} (ok : h.all okE = true) (hr : ∀ a e, h[a]? = some e → ∀ k, k < ab_z1 e → Φ.cst a k = true → Φ.r0 a k = unR (some e) k) : conc (fxc Φ h) = h := by
  refine Eq.trans ?_ (conc_unc ok)
  apply List.ext_getElem?
  intro a
  unfold conc
  rw [List.getElem?_mapIdx, List.getElem?_mapIdx, show (fxc Φ h).sh[a]? = (h[a]?).map unS from List.getElem?_map, show (unc h).sh[a]? = (h[a]?).map unS from List.getElem?_map]
  cases ha : h[a]? with
  | none => rfl
  | some e =>
    show some (sg_c (fxc Φ h) a (unS e)) = some (sg_c (unc h) a (unS e))
    have rr : ∀ k, k < ab_z1 e → (fxc Φ h).r a k = (unc h).r a k := fun k hk => fxc_r (fun z => by rw [ha]; exact hr a e ha k hk z)
    have ok1 := List.all_eq_true.mp ok e (List.mem_of_getElem? ha)
    congr 1
    rcases e with n | ⟨t, x⟩ | ⟨ci, fs⟩
    · rfl
    · show (.inr (.inl (t, sg_a (fxc Φ h) a (ab_len x) t)) : ab_E) = .inr (.inl (t, sg_a (unc h) a (ab_len x) t))
      have e2 : (List.range (ab_len x)).map (fun k => rfo ((fxc Φ h).r a k)) = (List.range (ab_len x)).map (fun k => rfo ((unc h).r a k)) := List.map_congr_left fun k hk => by rw [rr k (List.mem_range.mp hk)]
      have e3 : sg_a (fxc Φ h) a (ab_len x) t = sg_a (unc h) a (ab_len x) t := by
        unfold sg_a
        split
        · rfl
        · rfl
        · rfl
        · rfl
        · rw [e2]
      rw [e3]
    · show (.inr (.inr (ci, sg_o (fxc Φ h) a ci)) : ab_E) = .inr (.inr (ci, sg_o (unc h) a ci))
      obtain ⟨o1, -⟩ := okFs_at (show okFs (sg_ft ci) fs = true from ok1)
      have e3 : sg_o (fxc Φ h) a ci = sg_o (unc h) a ci := by
        unfold sg_o
        apply List.ext_getElem?
        intro k
        rw [List.getElem?_mapIdx, List.getElem?_mapIdx]
        cases hk : (sg_ft ci)[k]? with
        | none => rfl
        | some ty =>
          have hl := (List.getElem?_eq_some_iff.mp hk).1
          show some (sg_f (fxc Φ h) a k ty) = some (sg_f (unc h) a k ty)
          congr 1
          unfold sg_f
          split
          · rfl
          · rfl
          · rw [rr k (by show k < fs.length; omega)]
      rw [e3]
theorem fxc_fx {Φ : Fix} {h : List ab_E} (hs : h.map unS = Φ.sh0) : FX Φ (fxc Φ h).sh (fxc Φ h).r := ⟨⟨[], by rw [List.append_nil]; exact hs⟩, fun a k q => if_pos q⟩
/-! the landed code, new -/
theorem hw_s : hw_28.map unS = sh0C := by decide +kernel
theorem hw_ok : hw_28.all okE = true := by decide +kernel
theorem cstC_lt {a k : Nat} (h : cstC a k = true) : k < 20 := by
  unfold cstC at h
  split at h <;> simp at h <;> omega
theorem hw_rc : (List.range 101).all (fun a => (List.range 20).all (fun k => !(cstC a k) || decide (r0C a k = unR hw_28[a]? k))) = true := by decide +kernel
theorem hw_r {a : Nat} {e : ab_E} (ha : hw_28[a]? = some e) {k : Nat} (h : cstC a k = true) : r0C a k = unR (some e) k := by
  have hl : a < 101 := by
    have := (List.getElem?_eq_some_iff.mp ha).1
    rw [hw_28_n] at this
    exact this
  have h1 := List.all_eq_true.mp (List.all_eq_true.mp hw_rc a (List.mem_range.mpr hl)) k (List.mem_range.mpr (cstC_lt h))
  rw [h] at h1
  have h2 : r0C a k = unR hw_28[a]? k := by simpa using h1
  rw [h2, ha]
def sgC : Sg := fxc ΦC hw_28
theorem sgC_c : conc sgC = hw_28 := conc_fxc hw_ok (fun a e ha k _ h => hw_r ha h)
theorem sgC_F : FX ΦC sgC.sh sgC.r := fxc_fx hw_s

/-! A HEAP AS FUNCTIONS, with what stays -/
def fxc (Φ : Fix) (h : List ab_E) : Sg := (h.map unS, fun a k => unI h[a]? k, fun a k => unL h[a]? k, fun a k => if Φ.cst a k = true then Φ.r0 a k else unR h[a]? k)
theorem fxc_r {Φ : Fix} {h : List ab_E} {a k : Nat} (q : Φ.cst a k = true → Φ.r0 a k = unR h[a]? k) : (fxc Φ h).r a k = (unc h).r a k := by
  show (if Φ.cst a k = true then Φ.r0 a k else unR h[a]? k) = unR h[a]? k
  split
  · rename_i z
    exact q z
  · rfl
theorem conc_fxc {Φ : Fix} {h : List ab_E} (ok : h.all okE = true) (hr : ∀ a e, h[a]? = some e → ∀ k, k < ab_z1 e → Φ.cst a k = true → Φ.r0 a k = unR (some e) k) : conc (fxc Φ h) = h := by
  refine Eq.trans ?_ (conc_unc ok)
  apply List.ext_getElem?
  intro a
  unfold conc
  rw [List.getElem?_mapIdx, List.getElem?_mapIdx, show (fxc Φ h).sh[a]? = (h[a]?).map unS from List.getElem?_map, show (unc h).sh[a]? = (h[a]?).map unS from List.getElem?_map]
  cases ha : h[a]? with
  | none => rfl
  | some e =>
    show some (sg_c (fxc Φ h) a (unS e)) = some (sg_c (unc h) a (unS e))
    have rr : ∀ k, k < ab_z1 e → (fxc Φ h).r a k = (unc h).r a k := fun k hk => fxc_r (fun z => by rw [ha]; exact hr a e ha k hk z)
    have ok1 := List.all_eq_true.mp ok e (List.mem_of_getElem? ha)
    congr 1
    rcases e with n | ⟨t, x⟩ | ⟨ci, fs⟩
    · rfl
    · show (.inr (.inl (t, sg_a (fxc Φ h) a (ab_len x) t)) : ab_E) = .inr (.inl (t, sg_a (unc h) a (ab_len x) t))
      have e2 : (List.range (ab_len x)).map (fun k => rfo ((fxc Φ h).r a k)) = (List.range (ab_len x)).map (fun k => rfo ((unc h).r a k)) := List.map_congr_left fun k hk => by rw [rr k (List.mem_range.mp hk)]
      have e3 : sg_a (fxc Φ h) a (ab_len x) t = sg_a (unc h) a (ab_len x) t := by
        unfold sg_a
        split
        · rfl
        · rfl
        · rfl
        · rfl
        · rw [e2]
      rw [e3]
    · show (.inr (.inr (ci, sg_o (fxc Φ h) a ci)) : ab_E) = .inr (.inr (ci, sg_o (unc h) a ci))
      obtain ⟨o1, -⟩ := okFs_at (show okFs (sg_ft ci) fs = true from ok1)
      have e3 : sg_o (fxc Φ h) a ci = sg_o (unc h) a ci := by
        unfold sg_o
        apply List.ext_getElem?
        intro k
        rw [List.getElem?_mapIdx, List.getElem?_mapIdx]
        cases hk : (sg_ft ci)[k]? with
        | none => rfl
        | some ty =>
          have hl := (List.getElem?_eq_some_iff.mp hk).1
          show some (sg_f (fxc Φ h) a k ty) = some (sg_f (unc h) a k ty)
          congr 1
          unfold sg_f
          split
          · rfl
          · rfl
          · rw [rr k (by show k < fs.length; omega)]
      rw [e3]
theorem fxc_fx {Φ : Fix} {h : List ab_E} (hs : h.map unS = Φ.sh0) : FX Φ (fxc Φ h).sh (fxc Φ h).r := ⟨⟨[], by rw [List.append_nil]; exact hs⟩, fun a k q => if_pos q⟩
/-! the landed code, new: its cells, the notes put behind the others -/
def hw_p (k : Nat) : Nat := if k < 89 then k else if k < 101 then k + 1 else if k = 101 then 89 else k
def hwP : List ab_E := [.inr (.inr (13, [.ref 1, .ref 40, .ref 46, .ref 56, .ref 67, .ref 83, .ref 98, .ref 99, .ref 100, .int (0), .int (0), .int (0), .int (10000), .int (0)])), .inr (.inr (12, [.ref 2, .ref 10, .ref 24, .ref 28, .ref 29, .ref 30, .ref 31, .ref 32, .ref 33, .ref 34, .ref 35, .ref 36, .ref 37, .ref 38, .int (2), .int (0), .int (2), .ref 39])), .inr (.inr (3, [.ref 3, .ref 4, .ref 5, .ref 6, .int (1), .ref 7, .ref 8, .ref 9])), .inr (.inl (3, .inl ((List.replicate 24 0).set 0 (1)))), .inr (.inl (0, .inl ((((List.replicate 24 0).set 0 (1)).set 1 (3)).set 2 (5)))), .inr (.inl (0, .inl ((((List.replicate 24 0).set 0 (1)).set 1 (2)).set 2 (2)))), .inr (.inl (0, .inl (List.replicate 24 0))), .inr (.inl (0, .inl (((((((List.replicate 1728 0).set 24 (1)).set 48 (2)).set 600 (1)).set 624 (2)).set 1176 (1)).set 1200 (2)))), .inr (.inl (0, .inl (((((((List.replicate 1728 0).set 24 (1)).set 48 (1)).set 600 (1)).set 624 (1)).set 1176 (1)).set 1200 (1)))), .inr (.inl (0, .inl (((List.replicate 25 0).set 0 (1)).set 1 (1)))), .inr (.inr (6, [.int (0), .ref 11, .ref 12, .ref 13, .ref 14, .ref 15, .ref 16, .ref 17, .ref 18, .ref 19, .ref 20, .ref 21, .ref 22, .ref 23])), .inr (.inl (0, .inl (List.replicate 122 0))), .inr (.inl (0, .inl (List.replicate 122 0))), .inr (.inl (0, .inl (List.replicate 122 0))), .inr (.inl (0, .inl (List.replicate 122 0))), .inr (.inl (0, .inl (List.replicate 366 0))), .inr (.inl (3, .inl (List.replicate 366 0))), .inr (.inl (0, .inl (List.replicate 366 0))), .inr (.inl (0, .inl (List.replicate 122 0))), .inr (.inl (0, .inl (List.replicate 732 0))), .inr (.inl (0, .inl (List.replicate 732 0))), .inr (.inl (0, .inl (List.replicate 732 0))), .inr (.inl (1, .inr (.inl (List.replicate 732 0)))), .inr (.inl (1, .inr (.inl (List.replicate 122 0)))), .inr (.inr (2, [.ref 25, .ref 26, .ref 27, .int (902), .int (0)])), .inr (.inl (0, .inl (List.replicate 1804 0))), .inr (.inl (0, .inl (List.replicate 1804 0))), .inr (.inl (0, .inl (List.replicate 1804 0))), .inr (.inl (0, .inl ((List.replicate 4 0).set 0 (3)))), .inr (.inl (1, .inr (.inl ((((List.replicate 72 0).set 0 (111513)).set 1 (144276)).set 2 (537219860))))), .inr (.inl (1, .inr (.inl (List.replicate 72 0)))), .inr (.inl (0, .inl (List.replicate 24 0))), .inr (.inl (0, .inl (List.replicate 24 0))), .inr (.inl (0, .inl (List.replicate 24 0))), .inr (.inl (1, .inr (.inl (List.replicate 24 0)))), .inr (.inl (1, .inr (.inl (List.replicate 24 0)))), .inr (.inl (1, .inr (.inl (List.replicate 72 0)))), .inr (.inl (1, .inr (.inl (List.replicate 72 0)))), .inr (.inl (0, .inl (((List.replicate 24 0).set 0 (1)).set 1 (2)))), .inr (.inl (0, .inl (List.replicate 5 0))), .inr (.inr (8, [.ref 1, .ref 41, .int (0), .int (0), .int (0), .int (0), .int (0), .int (0), .int (0), .int (0), .int (0), .int (0), .long (0)])), .inr (.inr (9, [.ref 42, .ref 43, .ref 44, .ref 45, .int (0)])), .inr (.inl (0, .inl (List.replicate 64 0))), .inr (.inl (0, .inl (List.replicate 64 0))), .inr (.inl (1, .inr (.inl (List.replicate 64 0)))), .inr (.inl (1, .inr (.inl (List.replicate 64 0)))), .inr (.inr (7, [.ref 1, .ref 48, .int (8), .ref 47])), .inr (.inl (0, .inl (List.replicate 64 0))), .inr (.inr (10, [.ref 1, .ref 49, .ref 50, .int (0), .ref 51, .ref 52, .ref 53, .int (0), .ref 54, .ref 55, .int (0), .long (0)])), .inr (.inl (0, .inl (List.replicate 18 0))), .inr (.inl (3, .inl (List.replicate 18 0))), .inr (.inl (0, .inl (List.replicate 36 0))), .inr (.inl (0, .inl (List.replicate 36 0))), .inr (.inl (1, .inr (.inl (List.replicate 36 0)))), .inr (.inl (0, .inl (List.replicate 37 0))), .inr (.inl (1, .inr (.inl (((((((((((((List.replicate 592 0).set 1 (2147483648)).set 2 (2147483648)).set 3 (2147483648)).set 4 (2147483647)).set 6 (4294967295)).set 7 (4294967295)).set 8 (2147483647)).set 9 (4294967295)).set 11 (4294967295)).set 12 (2147483647)).set 13 (4294967295)).set 14 (4294967295))))), .inr (.inr (4, [.ref 1, .ref 57, .ref 58, .ref 59, .ref 60, .ref 61, .ref 62, .ref 63, .ref 64, .ref 65, .ref 66, .int (0), .int (0)])), .inr (.inl (0, .inl (List.replicate 24 0))), .inr (.inl (1, .inr (.inl (List.replicate 24 0)))), .inr (.inl (1, .inr (.inl (List.replicate 24 0)))), .inr (.inl (1, .inr (.inl (List.replicate 72 0)))), .inr (.inl (1, .inr (.inl (List.replicate 72 0)))), .inr (.inl (0, .inl (List.replicate 24 0))), .inr (.inl (0, .inl (List.replicate 24 0))), .inr (.inl (1, .inr (.inl (List.replicate 64 0)))), .inr (.inl (1, .inr (.inl (List.replicate 64 0)))), .inr (.inl (0, .inl (List.replicate 64 0))), .inr (.inr (11, [.ref 1, .ref 46, .ref 75, .ref 68, .ref 69, .ref 70, .ref 71, .ref 72, .ref 73, .int (0), .ref 74, .int (0)])), .inr (.inl (0, .inl (List.replicate 24 0))), .inr (.inl (0, .inl (List.replicate 24 0))), .inr (.inl (0, .inl (List.replicate 72 0))), .inr (.inl (0, .inl (List.replicate 3 0))), .inr (.inl (0, .inl (List.replicate 120 0))), .inr (.inl (0, .inl (List.replicate 120 0))), .inr (.inl (0, .inl (List.replicate 120 0))), .inr (.inr (10, [.ref 1, .ref 76, .ref 77, .int (0), .ref 78, .ref 79, .ref 80, .int (0), .ref 81, .ref 82, .int (0), .long (0)])), .inr (.inl (0, .inl (List.replicate 18 0))), .inr (.inl (3, .inl (List.replicate 18 0))), .inr (.inl (0, .inl (List.replicate 36 0))), .inr (.inl (0, .inl (List.replicate 36 0))), .inr (.inl (1, .inr (.inl (List.replicate 36 0)))), .inr (.inl (0, .inl (List.replicate 37 0))), .inr (.inl (1, .inr (.inl (((((((((((((List.replicate 592 0).set 1 (2147483648)).set 2 (2147483648)).set 3 (2147483648)).set 4 (2147483647)).set 6 (4294967295)).set 7 (4294967295)).set 8 (2147483647)).set 9 (4294967295)).set 11 (4294967295)).set 12 (2147483647)).set 13 (4294967295)).set 14 (4294967295))))), .inr (.inr (5, [.ref 1, .ref 84, .ref 93, .ref 94, .ref 95, .int (0), .int (0), .int (0), .int (0), .int (0), .long (0), .int (-1), .int (0), .long (0), .int (0), .ref 96, .int (0), .ref 97, .int (0)])), .inr (.inr (1, [.ref 1, .ref 46, .ref 56, .int (0), .int (0), .ref 85, .ref 86, .ref 87, .ref 88, .ref 101, .ref 89, .ref 90, .int (0), .long (0), .long (0), .ref 91, .ref 92])), .inr (.inl (0, .inl (List.replicate 3328 0))), .inr (.inl (0, .inl (List.replicate 104 0))), .inr (.inl (0, .inl (List.replicate 104 0))), .inr (.inl (3, .inl (List.replicate 104 0))), .inr (.inl (0, .inl (List.replicate 3 0))), .inr (.inl (0, .inl (List.replicate 120 0))), .inr (.inl (0, .inl (List.replicate 120 0))), .inr (.inl (0, .inl (List.replicate 120 0))), .inr (.inl (1, .inr (.inl (List.replicate 2048 0)))), .inr (.inl (1, .inr (.inl (List.replicate 832 0)))), .inr (.inl (1, .inr (.inl (List.replicate 3 0)))), .inr (.inl (0, .inl (List.replicate 512 0))), .inr (.inl (0, .inl (List.replicate 512 0))), .inr (.inl (0, .inl (List.replicate 512 0))), .inr (.inl (0, .inl (List.replicate 3 0))), .inr (.inl (2, .inl (List.replicate 256 0))), .inr (.inl (1, .inr (.inl (List.replicate 130 0))))]
theorem hwP_n : hwP.length = 102 := by decide +kernel
theorem hw_pm : hwP.map (ab_rnE hw_p) = (List.range 102).map (fun k => (hw_28[hw_p k]?).getD (.inl 0)) := ab_eqH_ok (by decide +kernel)
theorem hw_pl {k : Nat} (h : k < 102) : hw_p k < 102 := by
  unfold hw_p
  split
  · omega
  · split
    · omega
    · split <;> omega
theorem hw_pi {j k : Nat} (hj : j < 102) (hk : k < 102) (h : hw_p j = hw_p k) : j = k := by
  unfold hw_p at h
  split at h <;> split at h <;> (try split at h) <;> (try split at h) <;> (try split at h) <;> (try split at h) <;> omega
theorem hw_at {k : Nat} {e : ab_E} (h : hwP[k]? = some e) : hw_28[hw_p k]? = some (ab_rnE hw_p e) := by
  have hl := (List.getElem?_eq_some_iff.mp h).1
  rw [hwP_n] at hl
  have h1 : (hwP.map (ab_rnE hw_p))[k]? = some (ab_rnE hw_p e) := by rw [List.getElem?_map, h]; rfl
  rw [hw_pm, List.getElem?_map, List.getElem?_range hl] at h1
  have h2 : hw_28[hw_p k]? = some (hw_28[hw_p k]'(by rw [hw_28_n]; exact hw_pl hl)) := List.getElem?_eq_getElem _
  have h3 : (hw_28[hw_p k]?).getD (.inl 0) = ab_rnE hw_p e := Option.some.inj h1
  rw [h2] at h3 ⊢
  exact congrArg some h3
theorem hw_s : hwP.map unS = sh0C := by decide +kernel
theorem hw_ok : hwP.all okE = true := by decide +kernel
theorem cstC_lt {a k : Nat} (h : cstC a k = true) : k < 20 := by
  unfold cstC at h
  split at h <;> simp at h <;> omega
theorem hw_rc : (List.range 102).all (fun a => (List.range 20).all (fun k => !(cstC a k) || decide (r0C a k = unR hwP[a]? k))) = true := by decide +kernel
theorem hw_r {a : Nat} {e : ab_E} (ha : hwP[a]? = some e) {k : Nat} (h : cstC a k = true) : r0C a k = unR (some e) k := by
  have hl : a < 102 := by
    have := (List.getElem?_eq_some_iff.mp ha).1
    rw [hwP_n] at this
    exact this
  have h1 := List.all_eq_true.mp (List.all_eq_true.mp hw_rc a (List.mem_range.mpr hl)) k (List.mem_range.mpr (cstC_lt h))
  rw [h] at h1
  have h2 : r0C a k = unR hwP[a]? k := by simpa using h1
  rw [h2, ha]
def sgC : Sg := fxc ΦC hwP
theorem sgC_c : conc sgC = hwP := conc_fxc hw_ok (fun a e ha k _ h => hw_r ha h)
theorem sgC_F : FX ΦC sgC.sh sgC.r := fxc_fx hw_s

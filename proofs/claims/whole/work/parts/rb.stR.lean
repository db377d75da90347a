/-! THE REFERENCE, NEW -/
def hm_RS : List Sh := [Sh.arr 4 24] ++ ([Sh.arr 5 24] ++ ([Sh.arr 6 121] ++ ([Sh.arr 7 8] ++ ((hm_Nodes 5).map unS ++ ((hm_Nodes 7).map unS ++ ((ab_mk [8, 0] [25, 24] 9).map unS ++ ([Sh.arr 0 25] ++ ([Sh.arr 0 25] ++ ([Sh.arr 2 8192] ++ ((hm_Kind 38).map unS ++ ((hm_Call 47).map unS ++ ((hm_Method 50).map unS ++ ([Sh.arr 0 64] ++ ((ab_mk [9, 10, 11, 1] [24, 3, 24, 2] 55).map unS ++ ((ab_mk [12, 3] [24, 24] 1880).map unS ++ ((ab_mk [11, 1] [24, 2] 1905).map unS ++ ([Sh.arr 0 24] ++ ([Sh.arr 0 24] ++ ([Sh.arr 0 24] ++ ([Sh.arr 0 128] ++ ([Sh.arr 0 128] ++ ([Sh.arr 0 128] ++ ([Sh.arr 1 128] ++ ((ab_mk [11, 1] [129, 16] 1937).map unS ++ ([Sh.arr 0 8] ++ ([Sh.arr 3 256] ++ ([Sh.arr 0 8192] ++ ([Sh.arr 2 8192] ++ ((ab_mk [11, 1] [24, 3] 2071).map unS ++ ((ab_mk [11, 1] [24, 3] 2096).map unS ++ ((ab_mk [8, 0] [3, 24] 2121).map unS ++ ([Sh.arr 0 3] ++ ([Sh.arr 1 65536] ++ ([Sh.arr 1 65536] ++ ([Sh.arr 3 65536] ++ ([Sh.arr 13 48] ++ ([Sh.arr 0 120] ++ ([Sh.arr 0 120] ++ ((hm_Failed 2132).map unS ++ ((hm_Ended 2133).map unS ++ ([Sh.arr 0 512] ++ ([Sh.arr 0 512] ++ ((ab_mk [11, 1] [42, 16] 2136).map unS ++ ([Sh.arr 6 42] ++ ([Sh.arr 13 42] ++ ([Sh.arr 0 42] ++ ([Sh.arr 0 3] ++ ([Sh.arr 0 3] ++ ([Sh.arr 0 3] ++ ([Sh.arr 0 3] ++ ([Sh.arr 0 120] ++ ([Sh.arr 0 120] ++ ([Sh.arr 0 3] ++ ([Sh.arr 0 120] ++ ([Sh.arr 3 256] ++ ([Sh.arr 2 1024] ++ ([Sh.arr 0 3])))))))))))))))))))))))))))))))))))))))))))))))))))))))))
theorem hm_Rs : hm_R.map unS = hm_RS := by
  unfold hm_R hm_RS
  simp only [List.map_append, List.map_cons, List.map_nil, unS, ab_len, List.length_replicate]
theorem hm_s5 : hm_H5.map unS = sh0R := by
  have e0 : hm_H0.map unS = Sh.obj 24 :: hm_RS := by
    show Sh.obj 24 :: hm_R.map unS = _
    rw [hm_Rs]
  unfold hm_H5 hm_H4 hm_H3 hm_H2 hm_H1
  simp only [List.map_set, List.map_append]
  rw [e0]
  decide +kernel
theorem hm_ok5 : hm_H5.all okE = true := by decide +kernel
def cstS (s : Option Sh) (k : Nat) : Bool := match s with
  | some (.inl 24) => [0, 1, 2, 3, 8, 9, 11, 12, 13, 14, 28, 29, 30, 31, 35, 36, 37, 38, 39, 40, 42, 43, 44, 45, 46, 49, 52, 55, 56, 57, 58, 59, 60, 61, 62, 63, 69, 71, 72, 76, 77, 88, 89, 90, 91, 92, 93, 94, 95, 99, 100, 101, 103, 104, 105, 109, 113, 114].contains k
  | some (.inl 18) => [0, 2, 4, 5].contains k
  | some (.inl 20) => [0].contains k
  | some (.inl 14) => [0].contains k
  | some (.inl 19) => [5, 6, 7].contains k
  | some (.inl 15) => [1, 2, 3].contains k
  | some (.inl 22) => [0].contains k
  | some (.inr (.inl (t, n))) => Nat.ble 4 t && !(n == 42 && (t == 6 || t == 13))
  | _ => false
def r0S (s : Option Sh) (a k : Nat) : Rf := match s with
  | some (.inl 24) => r0M k
  | some (.inl 18) => (match k with | 0 => Rf.ptr (a + 1) | 2 => Rf.ptr (a + 3) | 4 => Rf.ptr (a + 4) | 5 => Rf.ptr (a + 8) | _ => Rf.nul)
  | some (.inl 20) => (match k with | 0 => Rf.ptr (a + 1) | _ => Rf.nul)
  | some (.inl 14) => (match k with | 0 => Rf.ptr (a + 1) | _ => Rf.nul)
  | some (.inl 19) => (match k with | 5 => Rf.ptr (a + 1) | 6 => Rf.ptr (a + 2) | 7 => Rf.ptr (a + 3) | _ => Rf.nul)
  | some (.inl 15) => (match k with | 1 => Rf.ptr (a + 1) | 2 => Rf.ptr (a + 6) | 3 => Rf.ptr (a + 7) | _ => Rf.nul)
  | some (.inl 22) => (match k with | 0 => Rf.ptr (a + 1) | _ => Rf.nul)
  | some (.inr (.inl (t, n))) => r0A a k t
  | _ => Rf.nul
theorem cst_S (a k : Nat) : cstR a k = cstS (sh0R[a]?) k := rfl
theorem r0_S (a k : Nat) : r0R a k = r0S (sh0R[a]?) a k := rfl
def bdCe : ab_E → Nat
  | .inr (.inl (_, .inr (.inr l))) => l.length
  | .inr (.inr (_, fs)) => fs.length
  | _ => 0
def ckR (a : Nat) (e : ab_E) : Bool := (List.range (bdCe e)).all (fun k => !(cstS (some (unS e)) k) || decide (r0S (some (unS e)) a k = unR (some e) k))
def ckW : Nat → List ab_E → Bool
  | _, [] => true
  | a, e :: h => (if bdCe e = 0 then true else ckR a e) && ckW (a + 1) h
theorem ckW_at : ∀ {h : List ab_E} {b : Nat}, ckW b h = true → ∀ {a : Nat} {e : ab_E}, h[a]? = some e → ckR (b + a) e = true
  | [], b, _, a, e, he => by cases he
  | x :: h, b, hc, a, e, he => by
    rw [ckW, Bool.and_eq_true] at hc
    cases a with
    | zero =>
      injection he with he
      subst he
      have h1 := hc.1
      split at h1
      · rename_i z
        unfold ckR
        rw [z]
        rfl
      · exact h1
    | succ a =>
      have := ckW_at hc.2 he
      rw [show b + (a + 1) = b + 1 + a by omega]
      exact this
theorem hm_ck : ckW 0 hm_H5 = true := by decide +kernel
theorem hm_r5 {a : Nat} {e : ab_E} (ha : hm_H5[a]? = some e) {k : Nat} (hk : k < ab_z1 e) (h : cstR a k = true) : r0R a k = unR (some e) k := by
  have hs : sh0R[a]? = some (unS e) := by
    rw [← hm_s5, List.getElem?_map, ha]
    rfl
  have h1 := ckW_at hm_ck ha
  rw [Nat.zero_add] at h1
  rw [cst_S, hs] at h
  rw [r0_S, hs]
  have hb : k < bdCe e := by
    rcases e with n | ⟨t, l | l | l⟩ | ⟨ci, fs⟩
    · exact absurd h (by show ¬ (false = true); decide)
    · have ok := List.all_eq_true.mp hm_ok5 _ (List.mem_of_getElem? ha)
      have ok2 : t = 0 ∨ t = 2 ∨ t = 3 := by simpa [okE] using ok
      have h4 : (Nat.ble 4 t && !(l.length == 42 && (t == 6 || t == 13))) = true := h
      rcases ok2 with rfl | rfl | rfl <;> cases h4
    · have ok := List.all_eq_true.mp hm_ok5 _ (List.mem_of_getElem? ha)
      have ok2 : t = 1 := by simpa [okE] using ok
      have h4 : (Nat.ble 4 t && !(l.length == 42 && (t == 6 || t == 13))) = true := h
      subst ok2
      cases h4
    · exact hk
    · exact hk
  unfold ckR at h1
  have h2 := List.all_eq_true.mp h1 k (List.mem_range.mpr hb)
  rw [h] at h2
  simpa using h2
def sgR : Sg := fxc ΦR hm_H5
theorem sgR_c : conc sgR = hm_H5 := conc_fxc hm_ok5 (fun a e ha k hk h => hm_r5 ha hk h)
theorem sgR_F : FX ΦR sgR.sh sgR.r := fxc_fx hm_s5

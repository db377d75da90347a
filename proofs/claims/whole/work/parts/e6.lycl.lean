/-! THE CLASS: layers and calls, whole -/
theorem nm_snoc {ns : List (List Int32)} {o : Nat} {σ : Sg} {nm : List Int32} (h : NmS ns o σ) (h1 : σ.l 29 (o + ns.length) = nmH nm) (h2 : σ.l 30 (o + ns.length) = nmT nm) (hn : nm.length ≤ 16 ∧ ∀ c ∈ nm, nmC c) : NmS (ns ++ [nm]) o σ := fun k x hx => by
  by_cases y : k < ns.length
  · rw [List.getElem?_append_left y] at hx
    exact h k x hx
  · have hk := (List.getElem?_eq_some_iff.mp hx).1
    rw [List.length_append, List.length_singleton] at hk
    have e : k = ns.length := by omega
    subst e
    rw [List.getElem?_append_right (Nat.le_refl _), Nat.sub_self] at hx
    have e : nm = x := Option.some.inj hx
    subst e
    exact ⟨h1, h2, hn⟩
theorem fi_no {ns : List (List Int32)} {nm : List Int32} (h : ns.findIdx? (· == nm) = none) : nm ∉ ns := fun q => by
  have := List.findIdx?_eq_none_iff.mp h nm q
  simp at this
theorem nd_snoc {ns : List (List Int32)} {nm : List Int32} (h : ns.Nodup) (hn : nm ∉ ns) : (ns ++ [nm]).Nodup := List.nodup_append.mpr ⟨h, List.nodup_cons.mpr ⟨by simp, List.nodup_nil⟩, fun a ha b hb => by
  rw [List.mem_singleton.mp hb]
  exact fun z => hn (z ▸ ha)⟩
section LC
variable {Z : zT} {d : Nat} {t : Nat → Int32} {n N : Nat} {B : Nat × Nat × Nat × Nat × Nat} {C : Nat × Nat × Nat × Nat} {W : Wld} {σ τ υ : Sg} {K : kS} {vs : List (List Int32)} {R : HR}
theorem toE_no {w : Int} {nm : List Int32} (h : toE (enW W.1 W.2.1 W.2.2.1 w) nm = false) : nm ∉ W.1.map (·.1) ∧ nm ∉ W.2.1.map (·.1) ∧ nm ∉ W.2.2.1 := by
  unfold toE at h
  have h1 := (Bool.or_eq_false_iff.mp h).2
  have h2 := (Bool.or_eq_false_iff.mp (Bool.or_eq_false_iff.mp h).1).2
  have h3 := (Bool.or_eq_false_iff.mp (Bool.or_eq_false_iff.mp h).1).1
  exact ⟨fi_no (Option.isSome_eq_false_iff.mp h3 |> Option.isNone_iff_eq_none.mp), fi_no (Option.isSome_eq_false_iff.mp h2 |> Option.isNone_iff_eq_none.mp), fi_no (Option.isSome_eq_false_iff.mp h1 |> Option.isNone_iff_eq_none.mp)⟩
theorem nmE_nil {env : Env} {p : Nat} {full : Prop} [Decidable full] (h : nmE t n env p full = []) : toE env (nmS t n p) = false ∧ ¬ full := by
  unfold nmE at h
  obtain ⟨h1, h2⟩ := List.append_eq_nil_iff.mp h
  refine ⟨?_, ife_nil h2⟩
  cases e : toE env (nmS t n p) with
  | false => rfl
  | true =>
    rw [e] at h1
    cases h1
/-- one more layer -/
theorem HB.ly {nm : List Int32} (h : HB t n N B C W σ) (hl : W.2.2.1.length < 8) (hn : nm ∉ W.2.2.1) (ok : nm.length ≤ 16 ∧ ∀ c ∈ nm, nmC c) : HB t n N B C (W.1, W.2.1, W.2.2.1 ++ [nm], W.2.2.2) (((σ.wl 29 (48 + W.2.2.1.length) (nmH nm)).wl 30 (48 + W.2.2.1.length) (nmT nm)).wi 28 2 (Int32.ofNat (W.2.2.1.length + 1))) := by
  obtain ⟨f, sa, ss, hn', ca, ne, ⟨k1, k2, k3, k4, k5⟩, ⟨q1, q2, q3, q4, q5⟩, ⟨l1, l2, l3, l4⟩⟩ := h
  have sa' := sa
  obtain ⟨-, -, -, -, ⟨n1, n2⟩, e0, e1, e2, e3, hc⟩ := sa
  have gl : ∀ a k, ¬ ((a = 29 ∨ a = 30) ∧ k = 48 + W.2.2.1.length) → ((((σ.wl 29 (48 + W.2.2.1.length) (nmH nm)).wl 30 (48 + W.2.2.1.length) (nmT nm)).wi 28 2 (Int32.ofNat (W.2.2.1.length + 1)))).l a k = σ.l a k := fun a k q => (wl_ne (σ := σ.wl 29 (48 + W.2.2.1.length) (nmH nm)) (by omega)).trans (wl_ne (by omega))
  have gi : ∀ a k, ¬ (a = 28 ∧ k = 2) → ((((σ.wl 29 (48 + W.2.2.1.length) (nmH nm)).wl 30 (48 + W.2.2.1.length) (nmT nm)).wi 28 2 (Int32.ofNat (W.2.2.1.length + 1)))).i a k = σ.i a k := fun a k q => wi_ne q
  generalize hτ : ((σ.wl 29 (48 + W.2.2.1.length) (nmH nm)).wl 30 (48 + W.2.2.1.length) (nmT nm)).wi 28 2 (Int32.ofNat (W.2.2.1.length + 1)) = τ at gl gi ⊢
  have hsh : τ.sh = σ.sh := by rw [← hτ]; rfl
  have hr : τ.r = σ.r := by rw [← hτ]; rfl
  have x1 : τ.l 29 (48 + W.2.2.1.length) = nmH nm := by
    rw [← hτ]
    exact (wl_ne (σ := σ.wl 29 (48 + W.2.2.1.length) (nmH nm)) (by omega)).trans wl_eq
  have x2 : τ.l 30 (48 + W.2.2.1.length) = nmT nm := by
    rw [← hτ]
    exact wl_eq (σ := σ.wl 29 (48 + W.2.2.1.length) (nmH nm))
  have x3 : τ.i 28 2 = Int32.ofNat (W.2.2.1.length + 1) := by
    rw [← hτ]
    exact wi_eq
  refine ⟨by rw [hsh, hr]; exact f, by unfold SgA; rw [hsh, hr]; exact sa', ss.keep (gi 41 4 (by decide)) (funext fun k => gi _ k (by omega)) (funext fun k => gi _ k (by omega)) (funext fun k => gl _ k (by omega)) (funext fun k => gl _ k (by omega)), hn', by unfold CoA; rw [hsh, hr]; exact ca, ne, ⟨(gi 28 0 (by decide)).trans k1, k2, k3.keep (fun k hk => ?_), k4, fun k x hx => (gi 3 k (by omega)).trans (k5 k x hx)⟩, ⟨(gi 28 1 (by decide)).trans q1, q2, q3.keep (fun k hk => ?_), q4, fun k x hx => ⟨(gi 31 k (by omega)).trans (q5 k x hx).1, (q5 k x hx).2⟩⟩, ?_⟩
  · rw [List.length_map] at hk
    exact ⟨gl 29 _ (by omega), gl 30 _ (by omega)⟩
  · rw [List.length_map] at hk
    exact ⟨gl 29 _ (by omega), gl 30 _ (by omega)⟩
  · refine ⟨?_, ?_, nm_snoc (l3.keep (fun k hk => ⟨gl 29 _ (by omega), gl 30 _ (by omega)⟩)) x1 x2 ok, nd_snoc l4 hn⟩
    · show τ.i 28 2 = Int32.ofNat (W.2.2.1 ++ [nm]).length
      rw [List.length_append]
      exact x3
    · show (W.2.2.1 ++ [nm]).length ≤ 8
      rw [List.length_append]
      exact hl
/-- one more call -/
theorem HB.ca {nm : List Int32} {pl j w : Nat} {a b : Int32} (h : HB t n N B C W σ) (hl : W.2.1.length < 24) (hn : nm ∉ W.2.1.map (·.1)) (ok : nm.length ≤ 16 ∧ ∀ c ∈ nm, nmC c) (hp : 1 ≤ pl ∧ pl ≤ 3) : HB t n N B C (W.1, W.2.1 ++ [(nm, pl, j, w)], W.2.2.1, W.2.2.2) ((((((σ.wi 31 W.2.1.length (Int32.ofNat pl)).wi 32 W.2.1.length a).wi 33 W.2.1.length b).wl 29 (24 + W.2.1.length) (nmH nm)).wl 30 (24 + W.2.1.length) (nmT nm)).wi 28 1 (Int32.ofNat (W.2.1.length + 1))) := by
  obtain ⟨f, sa, ss, hn', ca, ne, ⟨k1, k2, k3, k4, k5⟩, ⟨q1, q2, q3, q4, q5⟩, ⟨l1, l2, l3, l4⟩⟩ := h
  have sa' := sa
  obtain ⟨-, -, -, -, ⟨n1, n2⟩, e0, e1, e2, e3, hc⟩ := sa
  have gl : ∀ x k, ¬ ((x = 29 ∨ x = 30) ∧ k = 24 + W.2.1.length) → (((((σ.wi 31 W.2.1.length (Int32.ofNat pl)).wi 32 W.2.1.length a).wi 33 W.2.1.length b).wl 29 (24 + W.2.1.length) (nmH nm)).wl 30 (24 + W.2.1.length) (nmT nm)).l x k = σ.l x k := fun x k q => (wl_ne (σ := (((σ.wi 31 W.2.1.length (Int32.ofNat pl)).wi 32 W.2.1.length a).wi 33 W.2.1.length b).wl 29 (24 + W.2.1.length) (nmH nm)) (by omega)).trans (wl_ne (σ := ((σ.wi 31 W.2.1.length (Int32.ofNat pl)).wi 32 W.2.1.length a).wi 33 W.2.1.length b) (by omega))
  have y1 : (((((σ.wi 31 W.2.1.length (Int32.ofNat pl)).wi 32 W.2.1.length a).wi 33 W.2.1.length b).wl 29 (24 + W.2.1.length) (nmH nm)).wl 30 (24 + W.2.1.length) (nmT nm)).l 29 (24 + W.2.1.length) = nmH nm := (wl_ne (σ := (((σ.wi 31 W.2.1.length (Int32.ofNat pl)).wi 32 W.2.1.length a).wi 33 W.2.1.length b).wl 29 (24 + W.2.1.length) (nmH nm)) (by omega)).trans wl_eq
  have y2 : (((((σ.wi 31 W.2.1.length (Int32.ofNat pl)).wi 32 W.2.1.length a).wi 33 W.2.1.length b).wl 29 (24 + W.2.1.length) (nmH nm)).wl 30 (24 + W.2.1.length) (nmT nm)).l 30 (24 + W.2.1.length) = nmT nm := wl_eq (σ := (((σ.wi 31 W.2.1.length (Int32.ofNat pl)).wi 32 W.2.1.length a).wi 33 W.2.1.length b).wl 29 (24 + W.2.1.length) (nmH nm))
  have y3 : ((σ.wi 31 W.2.1.length (Int32.ofNat pl)).wi 32 W.2.1.length a |>.wi 33 W.2.1.length b).i 31 W.2.1.length = Int32.ofNat pl := (wi_ne (by omega)).trans ((wi_ne (by omega)).trans wi_eq)
  have gi0 : ∀ x k, ¬ ((x = 31 ∨ x = 32 ∨ x = 33) ∧ k = W.2.1.length) → (((σ.wi 31 W.2.1.length (Int32.ofNat pl)).wi 32 W.2.1.length a).wi 33 W.2.1.length b).i x k = σ.i x k := fun x k q => (wi_ne (by omega)).trans ((wi_ne (by omega)).trans (wi_ne (by omega)))
  generalize hυ : ((((σ.wi 31 W.2.1.length (Int32.ofNat pl)).wi 32 W.2.1.length a).wi 33 W.2.1.length b).wl 29 (24 + W.2.1.length) (nmH nm)).wl 30 (24 + W.2.1.length) (nmT nm) = υ at gl y1 y2 ⊢
  have gi1 : ∀ x k, ¬ ((x = 31 ∨ x = 32 ∨ x = 33) ∧ k = W.2.1.length) → υ.i x k = σ.i x k := fun x k q => by
    rw [← hυ]
    exact gi0 x k q
  have y3' : υ.i 31 W.2.1.length = Int32.ofNat pl := by
    rw [← hυ]
    exact y3
  have hsh : υ.sh = σ.sh := by rw [← hυ]; rfl
  have hr : υ.r = σ.r := by rw [← hυ]; rfl
  have gi : ∀ x k, ¬ ((x = 31 ∨ x = 32 ∨ x = 33) ∧ k = W.2.1.length) → ¬ (x = 28 ∧ k = 1) → (υ.wi 28 1 (Int32.ofNat (W.2.1.length + 1))).i x k = σ.i x k := fun x k q q' => (wi_ne q').trans (gi1 x k q)
  refine ⟨by show FX ΦC υ.sh υ.r; rw [hsh, hr]; exact f, by unfold SgA; show (υ.r 41 0 = _ ∧ υ.sh[_]? = _) ∧ (υ.r 41 1 = _ ∧ υ.sh[_]? = _) ∧ (υ.r 41 2 = _ ∧ υ.sh[_]? = _) ∧ (υ.r 41 3 = _ ∧ υ.sh[_]? = _) ∧ _; rw [hsh, hr]; exact sa', ss.keep (gi 41 4 (by omega) (by omega)) (funext fun k => gi _ k (by omega) (by omega)) (funext fun k => gi _ k (by omega) (by omega)) (funext fun k => gl _ k (by omega)) (funext fun k => gl _ k (by omega)), hn', by unfold CoA; show (υ.r 24 0 = _ ∧ υ.sh[_]? = _) ∧ (υ.r 24 1 = _ ∧ υ.sh[_]? = _) ∧ (υ.r 24 2 = _ ∧ υ.sh[_]? = _) ∧ _; rw [hsh, hr]; exact ca, ne, ⟨(gi 28 0 (by omega) (by omega)).trans k1, k2, k3.keep (fun k hk => ?_), k4, fun k x hx => (gi 3 k (by omega) (by omega)).trans (k5 k x hx)⟩, ?_, ⟨(gi 28 2 (by omega) (by omega)).trans l1, l2, l3.keep (fun k hk => ?_), l4⟩⟩
  · rw [List.length_map] at hk
    exact ⟨gl 29 _ (by omega), gl 30 _ (by omega)⟩
  · have em : (W.2.1 ++ [(nm, pl, j, w)]).map (·.1) = W.2.1.map (·.1) ++ [nm] := by
      rw [List.map_append]
      rfl
    have lm : (W.2.1.map (·.1)).length = W.2.1.length := List.length_map ..
    refine ⟨?_, ?_, ?_, ?_, fun k x hx => ?_⟩
    · show (υ.wi 28 1 (Int32.ofNat (W.2.1.length + 1))).i 28 1 = Int32.ofNat (W.2.1 ++ [(nm, pl, j, w)]).length
      rw [List.length_append]
      exact wi_eq
    · show (W.2.1 ++ [(nm, pl, j, w)]).length ≤ 24
      rw [List.length_append]
      exact hl
    · show NmS ((W.2.1 ++ [(nm, pl, j, w)]).map (·.1)) 24 _
      rw [em]
      refine nm_snoc (q3.keep (fun k hk => ?_)) ?_ ?_ ok
      · rw [lm] at hk
        exact ⟨gl 29 _ (by omega), gl 30 _ (by omega)⟩
      · rw [lm]
        exact y1
      · rw [lm]
        exact y2
    · show ((W.2.1 ++ [(nm, pl, j, w)]).map (·.1)).Nodup
      rw [em]
      exact nd_snoc q4 hn
    · have hx : (W.2.1 ++ [(nm, pl, j, w)])[k]? = some x := hx
      by_cases y : k < W.2.1.length
      · rw [List.getElem?_append_left y] at hx
        exact ⟨(gi 31 k (by omega) (by omega)).trans (q5 k x hx).1, (q5 k x hx).2⟩
      · have hk := (List.getElem?_eq_some_iff.mp hx).1
        rw [List.length_append, List.length_singleton] at hk
        have e : k = W.2.1.length := by omega
        subst e
        rw [List.getElem?_append_right (Nat.le_refl _), Nat.sub_self] at hx
        have e : (nm, pl, j, w) = x := Option.some.inj hx
        subst e
        exact ⟨(wi_ne (by omega)).trans y3', hp⟩
  · exact ⟨gl 29 _ (by omega), gl 30 _ (by omega)⟩
end LC

/-! THE CLASS: a kind read, whole -/
section PA
variable {t : Nat → Int32} {n : Nat} {env : Env}
theorem pa_e {q : Nat} {ps : List Nat} (h : paE t n env q ps = []) : paO t n env q ps = true ∧ paN t n env q ps ≠ [] := by
  unfold paE at h
  unfold paO paN
  cases hk : env.1 (nmS t n q) with
  | none =>
    rw [hk] at h
    cases h
  | some k =>
    rw [hk] at h
    dsimp only at h ⊢
    by_cases z : k ∈ ps
    · rw [if_pos z] at h
      cases h
    · rw [if_neg z]
      exact ⟨decide_eq_true z, by simp⟩
theorem pa_ok : ∀ f p es ps g p' ps' g', pPa t n env f p es ps g = .inr (p', [], ps', g') → ps' ≠ [] ∧ es = [] ∧ g' = g
  | 0, p, es, ps, g, p', ps', g', h => by cases h
  | f + 1, p, es, ps, g, p', ps', g', h => by
    rw [pPa] at h
    split at h
    · split at h
      · obtain ⟨h1, h2, h3⟩ := pa_ok f _ _ _ _ _ _ _ h
        obtain ⟨h4, h5⟩ := List.append_eq_nil_iff.mp h2
        rw [(pa_e h5).1, Bool.and_true] at h3
        exact ⟨h1, h4, h3⟩
      · have h := Sum.inr.inj h
        have h2 : es ++ paE t n env (nxS t n p) ps = [] := congrArg (fun x => x.2.1) h
        have h3 : paN t n env (nxS t n p) ps = ps' := congrArg (fun x => x.2.2.1) h
        have h6 : (g && paO t n env (nxS t n p) ps) = g' := congrArg (fun x => x.2.2.2) h
        obtain ⟨h4, h5⟩ := List.append_eq_nil_iff.mp h2
        rw [(pa_e h5).1, Bool.and_true] at h6
        rw [← h3]
        exact ⟨(pa_e h5).2, h4, h6.symm⟩
    · cases h
end PA
section RK3
variable {Z : zT} {d : Nat} {t : Nat → Int32} {n N : Nat} {B : Nat × Nat × Nat × Nat × Nat} {C : Nat × Nat × Nat × Nat} {W : Wld} {σ τ υ : Sg} {K : kS} {vs : List (List Int32)} {R : HR}
theorem HB.kf (h : HB t n N B C W σ) (g : KF W.1.length σ τ) : HB t n N B C W τ := by
  obtain ⟨f, sa, ss, hn, ca, ne, ⟨k1, k2, k3, k4, k5⟩, ⟨q1, q2, q3, q4, q5⟩, ⟨l1, l2, l3, l4⟩⟩ := h
  have sa' := sa
  obtain ⟨-, -, -, -, ⟨n1, n2⟩, e0, e1, e2, e3, hc⟩ := sa
  obtain ⟨g1, g2, g3, gi⟩ := g
  have hi : ∀ a j, a ≠ 3 → a ≠ 4 → a ≠ 5 → a ≠ 7 → a ≠ 8 → a ≠ 9 → τ.i a j = σ.i a j := fun a j c1 c2 c3 c4 c5 c6 => gi a j (by unfold kfI; omega)
  refine ⟨by rw [g1, g3]; exact f, by unfold SgA; rw [g1, g3]; exact sa', ss.keep (hi 41 4 (by omega) (by omega) (by omega) (by omega) (by omega) (by omega)) (funext fun k => hi _ k (by omega) (by omega) (by omega) (by omega) (by omega) (by omega)) (funext fun k => hi _ k (by omega) (by omega) (by omega) (by omega) (by omega) (by omega)) (by rw [g2]) (by rw [g2]), hn, by unfold CoA; rw [g1, g3]; exact ca, ne, ⟨(hi 28 0 (by omega) (by omega) (by omega) (by omega) (by omega) (by omega)).trans k1, k2, k3.keep (fun k hk => by rw [g2]; exact ⟨rfl, rfl⟩), k4, fun k x hx => (gi 3 k ?_).trans (k5 k x hx)⟩, ⟨(hi 28 1 (by omega) (by omega) (by omega) (by omega) (by omega) (by omega)).trans q1, q2, q3.keep (fun k hk => by rw [g2]; exact ⟨rfl, rfl⟩), q4, fun k x hx => ⟨(hi 31 k (by omega) (by omega) (by omega) (by omega) (by omega) (by omega)).trans (q5 k x hx).1, (q5 k x hx).2⟩⟩, ⟨(hi 28 2 (by omega) (by omega) (by omega) (by omega) (by omega) (by omega)).trans l1, l2, l3.keep (fun k hk => by rw [g2]; exact ⟨rfl, rfl⟩), l4⟩⟩
  have := (List.getElem?_eq_some_iff.mp hx).1
  unfold kfI
  omega
theorem BdS.kf {k : Nat} (h : BdS t n N vs R σ) (g : KF k σ τ) : BdS t n N vs R τ := by
  obtain ⟨g1, g2, g3, gi⟩ := g
  have hi : ∀ a j, a = 40 ∨ a = 28 → τ.i a j = σ.i a j := fun a j c => gi a j (by unfold kfI; omega)
  rcases R with q | ⟨p, es⟩
  · obtain ⟨⟨b1, b2, b3⟩, b4, b5⟩ := h
    exact ⟨⟨(hi 40 3 (by omega)).trans b1, (hi 40 4 (by omega)).trans b2, b3⟩, (hi 28 3 (by omega)).trans b4, b5⟩
  · obtain ⟨⟨⟨i, i1, i2, i3⟩, b2⟩, ⟨b4, b5, b6⟩, ru, hev⟩ := h
    refine ⟨⟨⟨i, i1, (hi 40 3 (by omega)).trans i2, i3⟩, (hi 40 4 (by omega)).trans b2⟩, ⟨(hi 28 3 (by omega)).trans b4, b5, b6.keep (fun k hk => by rw [g2]; exact ⟨rfl, rfl⟩)⟩, ?_, hev⟩
    unfold RuC at ru ⊢
    rw [hi 40 5 (by omega), hi 40 6 (by omega)]
    exact ru
/-- one more kind -/
theorem HB.ki {x : Knd} (h : HB t n N B C W σ) (hl : W.1.length < 24) (hn : x.1 ∉ W.1.map (·.1)) (ok : x.1.length ≤ 16 ∧ ∀ c ∈ x.1, nmC c) (hb : σ.i 3 W.1.length = if x.2.1 = true then 1 else 0) : HB t n N B C (W.1 ++ [x], W.2.1, W.2.2.1, W.2.2.2) (((σ.wl 29 (0 + W.1.length) (nmH x.1)).wl 30 (0 + W.1.length) (nmT x.1)).wi 28 0 (Int32.ofNat (W.1.length + 1))) := by
  obtain ⟨f, sa, ss, hn', ca, ne, ⟨k1, k2, k3, k4, k5⟩, ⟨q1, q2, q3, q4, q5⟩, ⟨l1, l2, l3, l4⟩⟩ := h
  have sa' := sa
  obtain ⟨-, -, -, -, ⟨n1, n2⟩, e0, e1, e2, e3, hc⟩ := sa
  have gl : ∀ a k, ¬ ((a = 29 ∨ a = 30) ∧ k = 0 + W.1.length) → ((((σ.wl 29 (0 + W.1.length) (nmH x.1)).wl 30 (0 + W.1.length) (nmT x.1)).wi 28 0 (Int32.ofNat (W.1.length + 1)))).l a k = σ.l a k := fun a k q => wl2_l q
  have gi : ∀ a k, ¬ (a = 28 ∧ k = 0) → ((((σ.wl 29 (0 + W.1.length) (nmH x.1)).wl 30 (0 + W.1.length) (nmT x.1)).wi 28 0 (Int32.ofNat (W.1.length + 1)))).i a k = σ.i a k := fun a k q => wi_ne q
  generalize hτ : ((σ.wl 29 (0 + W.1.length) (nmH x.1)).wl 30 (0 + W.1.length) (nmT x.1)).wi 28 0 (Int32.ofNat (W.1.length + 1)) = τ at gl gi ⊢
  have hsh : τ.sh = σ.sh := by rw [← hτ]; rfl
  have hr : τ.r = σ.r := by rw [← hτ]; rfl
  have x1 : τ.l 29 (0 + W.1.length) = nmH x.1 := by
    rw [← hτ]
    exact (wl_ne (σ := σ.wl 29 (0 + W.1.length) (nmH x.1)) (by omega)).trans wl_eq
  have x2 : τ.l 30 (0 + W.1.length) = nmT x.1 := by
    rw [← hτ]
    exact wl_eq (σ := σ.wl 29 (0 + W.1.length) (nmH x.1))
  have x3 : τ.i 28 0 = Int32.ofNat (W.1.length + 1) := by
    rw [← hτ]
    exact wi_eq
  refine ⟨by rw [hsh, hr]; exact f, by unfold SgA; rw [hsh, hr]; exact sa', ss.keep (gi 41 4 (by omega)) (funext fun k => gi _ k (by omega)) (funext fun k => gi _ k (by omega)) (funext fun k => gl _ k (by omega)) (funext fun k => gl _ k (by omega)), hn', by unfold CoA; rw [hsh, hr]; exact ca, ne, ?_, ⟨(gi 28 1 (by omega)).trans q1, q2, q3.keep (fun k hk => ?_), q4, fun k x hx => ⟨(gi 31 k (by omega)).trans (q5 k x hx).1, (q5 k x hx).2⟩⟩, ⟨(gi 28 2 (by omega)).trans l1, l2, l3.keep (fun k hk => ⟨gl 29 _ (by omega), gl 30 _ (by omega)⟩), l4⟩⟩
  · have em : (W.1 ++ [x]).map (·.1) = W.1.map (·.1) ++ [x.1] := by
      rw [List.map_append]
      rfl
    have lm : (W.1.map (·.1)).length = W.1.length := List.length_map ..
    refine ⟨?_, ?_, ?_, ?_, fun k y hy => ?_⟩
    · show τ.i 28 0 = Int32.ofNat (W.1 ++ [x]).length
      rw [List.length_append]
      exact x3
    · show (W.1 ++ [x]).length ≤ 24
      rw [List.length_append]
      exact hl
    · show NmS ((W.1 ++ [x]).map (·.1)) 0 _
      rw [em]
      refine nm_snoc (k3.keep (fun k hk => ?_)) ?_ ?_ ok
      · rw [lm] at hk
        exact ⟨gl 29 _ (by omega), gl 30 _ (by omega)⟩
      · rw [lm]
        exact x1
      · rw [lm]
        exact x2
    · show ((W.1 ++ [x]).map (·.1)).Nodup
      rw [em]
      exact nd_snoc k4 hn
    · have hy : (W.1 ++ [x])[k]? = some y := hy
      by_cases z : k < W.1.length
      · rw [List.getElem?_append_left z] at hy
        exact (gi 3 k (by omega)).trans (k5 k y hy)
      · have hk := (List.getElem?_eq_some_iff.mp hy).1
        rw [List.length_append, List.length_singleton] at hk
        have e : k = W.1.length := by omega
        subst e
        rw [List.getElem?_append_right (Nat.le_refl _), Nat.sub_self] at hy
        have e : x = y := Option.some.inj hy
        subst e
        exact (gi 3 _ (by omega)).trans hb
  · rw [List.length_map] at hk
    exact ⟨gl 29 _ (by omega), gl 30 _ (by omega)⟩
end RK3

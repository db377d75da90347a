/-! PURE: what is above is above, in every world that is told -/
def TrZ (ks : List Knd) : Prop := 1 ≤ ks.length ∧ (∀ a, a < ks.length → ∀ b ∈ rwW ks 1 a, b ≤ a) ∧ TrW ks
theorem rwW_old {ks : List Knd} {x : Knd} {w a : Nat} (h : a < ks.length) : rwW (ks ++ [x]) w a = rwW ks w a := by
  unfold rwW
  rw [List.getElem?_append_left h]
theorem rwW_new {ks : List Knd} {x : Knd} {w : Nat} : rwW (ks ++ [x]) w ks.length = rwK x w := by
  unfold rwW
  rw [List.getElem?_append_right (Nat.le_refl _), Nat.sub_self]
  rfl
theorem TrZ.add {ks : List Knd} {ps : List Nat} {x : Knd} (h : TrZ ks) (hp : ∀ p ∈ ps, p < ks.length) (hx : ∀ y, y ∈ rwK x 1 ↔ y = ks.length ∨ ∃ p ∈ ps, y ∈ rwW ks 1 p) : TrZ (ks ++ [x]) := by
  obtain ⟨h1, h2, h3⟩ := h
  refine ⟨by rw [List.length_append]; omega, fun a ha b hb => ?_, fun a b c ha hb hc => ?_⟩
  · rw [List.length_append, List.length_singleton] at ha
    by_cases q : a < ks.length
    · rw [rwW_old q] at hb
      exact h2 a q b hb
    · have e : a = ks.length := by omega
      subst e
      rw [rwW_new, hx] at hb
      rcases hb with e | ⟨p, p1, p2⟩
      · omega
      · have := hp p p1
        have := h2 p this b p2
        omega
  · rw [List.length_append, List.length_singleton] at ha
    by_cases q : a < ks.length
    · rw [rwW_old q] at hb ⊢
      have bl := h2 a q b hb
      rw [rwW_old (by omega)] at hc
      exact h3 a b c q hb hc
    · have e : a = ks.length := by omega
      subst e
      have hb' := hb
      rw [rwW_new, hx] at hb
      rcases hb with e | ⟨p, p1, p2⟩
      · rw [e] at hc
        exact hc
      · have pl := hp p p1
        have bl := h2 p pl b p2
        rw [rwW_old (by omega)] at hc
        rw [rwW_new, hx]
        exact Or.inr ⟨p, p1, h3 p b c pl p2 hc⟩
section TRANS
variable {t : Nat → Int32} {n : Nat} {env : Env} {N : Nat}
theorem pPa_lt (he : ∀ nm k, env.1 nm = some k → k < N) : ∀ f p es ps g q, pPa t n env f p es ps g = .inr q → (∀ x ∈ ps, x < N) → ∀ x ∈ q.2.2.1, x < N
  | 0, p, es, ps, g, q, h, _ => by cases h
  | f + 1, p, es, ps, g, q, h, hp => by
    have step : ∀ x ∈ paN t n env (nxS t n p) ps, x < N := fun x hx => by
      unfold paN at hx
      split at hx
      · exact hp x hx
      · rename_i k hk
        split at hx
        · exact hp x hx
        · rcases List.mem_append.mp hx with z | z
          · exact hp x z
          · rw [List.mem_singleton] at z
            rw [z]
            exact he _ k hk
    rw [pPa] at h
    split at h
    · split at h
      · exact pPa_lt he f _ _ _ _ q h step
      · cases h
        exact step
    · cases h
theorem pKp_lt (he : ∀ nm k, env.1 nm = some k → k < N) (h1 : 1 ≤ N) {p : Nat} {es : Evs} {q : Nat × Evs × List Nat × Bool} (h : pKp t n env p es = .inr q) : ∀ x ∈ q.2.2.1, x < N := by
  unfold pKp at h
  split at h
  · exact pPa_lt he _ _ _ _ _ q h (fun x hx => by cases hx)
  · cases h
    intro x hx
    have hx : x ∈ [0] := hx
    rw [List.mem_singleton] at hx
    omega
theorem rwN_1 (k : Nat) (ps : List Nat) (rs : Nat → Nat → List Nat) (y : Nat) : y ∈ (rwN k ps rs).2.1 ↔ y = k ∨ ∃ p ∈ ps, y ∈ rs 1 p := by
  show y ∈ k :: (ps.flatMap (rs 1)).foldl jn1 [] ↔ _
  rw [List.mem_cons, (jn1_all _ _ List.nodup_nil).2 y, List.mem_flatMap]
  constructor
  · rintro (e | e | e)
    · exact Or.inl e
    · cases e
    · exact Or.inr e
  · rintro (e | e)
    · exact Or.inl e
    · exact Or.inr (Or.inr e)
theorem TrZ.de {W W' : Wld} {p p' : Nat} {es : Evs} (h : TrZ W.1) (hd : pDe t n W p = .inr (p', es, W')) : TrZ W'.1 := by
  unfold pDe at hd
  split at hd
  · cases hk : pKi t n (enW W.1 W.2.1 W.2.2.1 (-1)) W.1.length (rwW W.1) (nxS t n p) with
    | inl q =>
      rw [hk] at hd
      cases hd
    | inr q =>
      obtain ⟨p2, es2, o⟩ := q
      rw [hk] at hd
      cases hd
      cases o with
      | none => exact h
      | some x =>
        show TrZ (W.1 ++ [x])
        unfold pKi at hk
        split at hk
        · cases hp : pKp t n (enW W.1 W.2.1 W.2.2.1 (-1)) (nxS t n (nxS t n p)) (nmE t n (enW W.1 W.2.1 W.2.2.1 (-1)) (nxS t n p) (W.1.length = 24)) with
          | inl q =>
            rw [hp] at hk
            cases hk
          | inr q =>
            obtain ⟨p1, es1, ps, g⟩ := q
            rw [hp] at hk
            dsimp only at hk
            generalize (if tyS t n p1 = 21 then nxS t n p1 else p1) = p5 at hk
            have lt := pKp_lt (N := W.1.length) (fun nm k hk => by
              have hk : (W.1.map (·.1)).findIdx? (· == nm) = some k := hk
              have := (List.findIdx?_eq_some_iff_getElem.mp hk).1
              rw [List.length_map] at this
              exact this) h.1 hp
            split at hk
            · split at hk
              · cases hk
              · cases hk
                refine h.add lt (fun y => ?_)
                exact rwN_1 W.1.length ps (rwW W.1) y
            · cases hk
        · cases hk
  · split at hd
    · cases hk : pCl t n (enW W.1 W.2.1 W.2.2.1 (-1)) W.2.1.length (nxS t n p) with
      | inl q =>
        rw [hk] at hd
        cases hd
      | inr q =>
        rw [hk] at hd
        cases hd
        exact h
    · split at hd
      · cases hk : pLy t n (enW W.1 W.2.1 W.2.2.1 (-1)) W.2.2.1.length (nxS t n p) with
        | inl q =>
          rw [hk] at hd
          cases hd
        | inr q =>
          rw [hk] at hd
          cases hd
          exact h
      · split at hd
        · cases hk : pMt t n (enW W.1 W.2.1 W.2.2.1 (-1)) W.2.2.2.length (nxS t n p) with
          | inl q =>
            rw [hk] at hd
            cases hd
          | inr q =>
            rw [hk] at hd
            cases hd
            exact h
        · cases hd
theorem TrZ.tx : ∀ (f : Nat) (W : Wld) (p p' : Nat) (es : Evs) (W' : Wld), TrZ W.1 → pTx t n f W p = .inr (p', es, W') → TrZ W'.1
  | 0, W, p, p', es, W', _, hd => by cases hd
  | f + 1, W, p, p', es, W', h, hd => by
    rw [pTx] at hd
    cases hk : pDe t n W p with
    | inl q =>
      rw [hk] at hd
      cases hd
    | inr q =>
      obtain ⟨p1, es1, W1⟩ := q
      rw [hk] at hd
      dsimp only at hd
      have h1 := h.de hk
      split at hd
      · cases hd
        exact h1
      · cases h2 : pTx t n f W1 p1 with
        | inl q =>
          rw [h2] at hd
          cases hd
        | inr q =>
          obtain ⟨p3, es3, W3⟩ := q
          rw [h2] at hd
          cases hd
          exact TrZ.tx f W1 p1 _ _ _ h1 h2
end TRANS
theorem TrZ.w0 : TrZ W0.1 := by
  refine ⟨by decide, ?_, ?_⟩
  · intro a ha b hb
    have ha : a < 3 := ha
    have : a = 0 ∨ a = 1 ∨ a = 2 := by omega
    rcases this with rfl | rfl | rfl
    · have hb : b ∈ [0] := hb
      rw [List.mem_singleton] at hb
      omega
    · have hb : b ∈ [1, 0] := hb
      simp at hb
      omega
    · have hb : b ∈ [2, 0] := hb
      simp at hb
      omega
  · intro a b c ha hb hc
    have ha : a < 3 := ha
    have r0 : rwW W0.1 1 0 = [0] := rfl
    have r1 : rwW W0.1 1 1 = [1, 0] := rfl
    have r2 : rwW W0.1 1 2 = [2, 0] := rfl
    have : a = 0 ∨ a = 1 ∨ a = 2 := by omega
    rcases this with rfl | rfl | rfl
    · rw [r0, List.mem_singleton] at hb
      rw [hb] at hc
      exact hc
    · rw [r1] at hb
      have : b = 1 ∨ b = 0 := by simpa using hb
      rcases this with rfl | rfl
      · exact hc
      · rw [r0, List.mem_singleton] at hc
        rw [hc, r1]
        decide
    · rw [r2] at hb
      have : b = 2 ∨ b = 0 := by simpa using hb
      rcases this with rfl | rfl
      · exact hc
      · rw [r0, List.mem_singleton] at hc
        rw [hc, r2]
        decide

/-! THE REFERENCE'S rebuild(), 4: what may fit at all; the whole -/
def orL (f : Nat → Int64) (l : List Nat) : Int64 := l.foldl (fun a y => a ||| f y) 0
theorem orL_snoc (f : Nat → Int64) (l : List Nat) (y : Nat) : orL f (l ++ [y]) = orL f l ||| f y := by
  unfold orL
  rw [List.foldl_append]
  rfl
def FrAn (σ τ : Sg) : Prop := τ.sh = σ.sh ∧ τ.r = σ.r ∧ τ.i = σ.i ∧ ∀ b, ¬ (2072 ≤ b ∧ b < 2096) → ¬ (2097 ≤ b ∧ b < 2121) → τ.l b = σ.l b
theorem FrAn.refl (σ : Sg) : FrAn σ σ := ⟨rfl, rfl, rfl, fun _ _ _ => rfl⟩
theorem FrAn.fx {σ τ : Sg} {Φ : Fix} (h : FrAn σ τ) (F : FX Φ σ.sh σ.r) : FX Φ τ.sh τ.r := by
  rw [h.1, h.2.1]
  exact F
theorem FrAn.wl {σ τ : Sg} (h : FrAn σ τ) {a k : Nat} {v : Int64} (ha : (2072 ≤ a ∧ a < 2096) ∨ (2097 ≤ a ∧ a < 2121)) : FrAn σ (τ.wl a k v) := ⟨h.1, h.2.1, h.2.2.1, fun b h1 h2 => (up_row (f := τ.l) (fun z => by rw [z] at h1 h2; exact ha.elim h1 h2)).trans (h.2.2.2 b h1 h2)⟩
def AnS (σ τ : Sg) (mk : List Nat) (c i : Nat) : Prop := ∀ c' i', (c' < c ∧ i' < 3) ∨ (c' = c ∧ i' < i) → τ.l (2071 + 1 + c') i' = orL (fun y => σ.l (fitA c' i' y) 0) mk ∧ τ.l (2096 + 1 + c') i' = orL (fun y => σ.l (fitA c' i' y) 1) mk
section RB4
variable {Z : zT} {d : Nat} {σ : Sg} {K : kS} {cn : Nat} {mk : List Nat}
theorem rb_any (F0 : FX ΦR σ.sh σ.r) (hcn : cn ≤ 24) (e5 : σ.i 0 5 = Int32.ofNat cn) (e41 : σ.i 0 41 = Int32.ofNat mk.length) (hml : mk.length ≤ 24) (hmk : ∀ j y, mk[j]? = some y → σ.i 1932 j = Int32.ofNat y ∧ y < 24) (hK : ∀ τ, FX ΦR τ.sh τ.r → FrAn σ τ → AnS σ τ mk cn 0 → B_X23_forget_0 Z d τ (yN K fun τ1 => K (.inl none) τ1)) : B_X23_rebuild_349 Z (d + 1) σ 0 K := by
  have l384 : ∀ (c i : Nat), c < cn → i < 3 → ∀ n j (τ : Sg), mk.length - j = n → j ≤ mk.length → FrAn σ τ → AnS σ τ mk c i → τ.l (2071 + 1 + c) i = orL (fun y => σ.l (fitA c i y) 0) (mk.take j) → τ.l (2096 + 1 + c) i = orL (fun y => σ.l (fitA c i y) 1) (mk.take j) → (∀ υ, FrAn σ υ → AnS σ υ mk c (i + 1) → B_X23_rebuild_359 Z (d + 1) υ (Int32.ofNat c) (Int32.ofNat (i + 1)) K) → B_X23_rebuild_384 Z (d + 1) τ (Int32.ofNat c) (Int32.ofNat i) (Int32.ofNat j) K := by
    intro c i hc hi n
    have bc : ib (Int32.ofNat c) 24 := ib_oN (by omega) (by decide)
    have bi : ib (Int32.ofNat i) 3 := ib_oN (by omega) (by decide)
    have tc : (Int32.ofNat c).toNatClampNeg = c := oN_t (by omega)
    have ti : (Int32.ofNat i).toNatClampNeg = i := oN_t (by omega)
    induction n with
    | zero =>
      intro j τ hn hj hF hA h0 h1 hnx
      have e : j = mk.length := by omega
      subst e
      refine S_X23_rebuild_384 (hF.fx F0) ⟨fun _ => ?_, fun q => absurd (by rw [hF.2.2.1, e41]; exact Int32.le_refl _) q⟩
      rw [oN_1]
      rw [List.take_length] at h0 h1
      refine hnx τ hF (fun c' i' h => ?_)
      by_cases q : c' = c ∧ i' = i
      · rw [q.1, q.2]
        exact ⟨h0, h1⟩
      · exact hA c' i' (by omega)
    | succ n ih =>
      intro j τ hn hj hF hA h0 h1 hnx
      have bj : ib (Int32.ofNat j) 24 := ib_oN (by omega) (by decide)
      have tj : (Int32.ofNat j).toNatClampNeg = j := oN_t (by omega)
      obtain ⟨y, hy⟩ : ∃ y, mk[j]? = some y := ⟨_, List.getElem?_eq_getElem (by omega)⟩
      obtain ⟨y1, y2⟩ := hmk j y hy
      have ey : τ.i 1932 (Int32.ofNat j).toNatClampNeg = Int32.ofNat y := by
        rw [tj, hF.2.2.1]
        exact y1
      have by' : ib (Int32.ofNat y) 24 := ib_oN (by omega) (by decide)
      have ty : (Int32.ofNat y).toNatClampNeg = y := oN_t (by omega)
      refine S_X23_rebuild_384 (hF.fx F0) ⟨fun q => ?_, fun _ => ?_⟩
      · rw [hF.2.2.1, e41] at q
        have := (oN_le (by omega) (by omega)).mp q
        omega
      · rw [ey, tc, ti, ty]
        refine ⟨bc, bi, bc, bi, bj, by', bi, bc, bi, bc, bi, bj, by', bi, ?_⟩
        rw [oN_1]
        have ef : ∀ w, τ.l (fitA c i y) w = σ.l (fitA c i y) w := fun w => by
          rw [hF.2.2.2 (fitA c i y) (by show ¬ (2072 ≤ 55 + 1 + 76 * c + 1 + 25 * i + 1 + y ∧ _); omega) (by show ¬ (2097 ≤ 55 + 1 + 76 * c + 1 + 25 * i + 1 + y ∧ _); omega)]
        have tk : mk.take (j + 1) = mk.take j ++ [y] := by
          rw [List.take_add_one, hy]
          rfl
        refine ih (j + 1) _ (by omega) (by omega) ((hF.wl (by omega)).wl (by omega)) (fun c' i' h => ?_) ?_ ?_ hnx
        · have := hA c' i' h
          refine ⟨?_, ?_⟩
          · rw [wl_l, if_neg (by omega), wl_l, if_neg (by omega)]
            exact this.1
          · rw [wl_l, if_neg (by omega), wl_l, if_neg (by omega)]
            exact this.2
        · rw [wl_l, if_neg (by omega), wl_l, if_pos ⟨rfl, rfl⟩, tk, orL_snoc, h0]
          congr 1
          exact ef 0
        · rw [wl_l, if_pos ⟨rfl, rfl⟩, wl_l, if_neg (by omega), wl_l, if_neg (by omega), tk, orL_snoc, h1]
          congr 1
          exact ef 1
  have l359 : ∀ (c : Nat), c < cn → ∀ n i (τ : Sg), 3 - i = n → i ≤ 3 → FrAn σ τ → AnS σ τ mk c i → (∀ υ, FrAn σ υ → AnS σ υ mk (c + 1) 0 → B_X23_rebuild_349 Z (d + 1) υ (Int32.ofNat (c + 1)) K) → B_X23_rebuild_359 Z (d + 1) τ (Int32.ofNat c) (Int32.ofNat i) K := by
    intro c hc n
    have bc : ib (Int32.ofNat c) 24 := ib_oN (by omega) (by decide)
    have tc : (Int32.ofNat c).toNatClampNeg = c := oN_t (by omega)
    induction n with
    | zero =>
      intro i τ hn hi hF hA hnx
      have e : i = 3 := by omega
      subst e
      refine S_X23_rebuild_359 (hF.fx F0) ⟨fun _ => ?_, fun q => absurd (by decide) q⟩
      rw [oN_1]
      exact hnx τ hF (fun c' i' h => hA c' i' (by omega))
    | succ n ih =>
      intro i τ hn hi hF hA hnx
      have bi : ib (Int32.ofNat i) 3 := ib_oN (by omega) (by decide)
      have ti : (Int32.ofNat i).toNatClampNeg = i := oN_t (by omega)
      refine S_X23_rebuild_359 (hF.fx F0) ⟨fun q => ?_, fun _ => ⟨bc, bi, bc, bi, ?_⟩⟩
      · have := (oN_le (a := 3) (by omega) (by omega)).mp q
        omega
      · rw [tc, ti]
        refine l384 c i hc (by omega) _ 0 _ rfl (by omega) ((hF.wl (by omega)).wl (by omega)) (fun c' i' h => ?_) ?_ ?_ (fun υ g1 g2 => ih (i + 1) υ (by omega) (by omega) g1 g2 hnx)
        · have := hA c' i' h
          refine ⟨?_, ?_⟩
          · rw [wl_l, if_neg (by omega), wl_l, if_neg (by omega)]
            exact this.1
          · rw [wl_l, if_neg (by omega), wl_l, if_neg (by omega)]
            exact this.2
        · rw [wl_l, if_neg (by omega), wl_l, if_pos ⟨rfl, rfl⟩]
          rfl
        · rw [wl_l, if_pos ⟨rfl, rfl⟩]
          rfl
  have l349 : ∀ n c (τ : Sg), cn - c = n → c ≤ cn → FrAn σ τ → AnS σ τ mk c 0 → B_X23_rebuild_349 Z (d + 1) τ (Int32.ofNat c) K := by
    intro n
    induction n with
    | zero =>
      intro c τ hn hc hF hA
      have e : c = cn := by omega
      subst e
      exact S_X23_rebuild_349 (hF.fx F0) ⟨fun _ => hK τ (hF.fx F0) hF hA, fun q => absurd (by rw [hF.2.2.1, e5]; exact Int32.le_refl _) q⟩
    | succ n ih =>
      intro c τ hn hc hF hA
      refine S_X23_rebuild_349 (hF.fx F0) ⟨fun q => ?_, fun _ => ?_⟩
      · rw [hF.2.2.1, e5] at q
        have := (oN_le (by omega) (by omega)).mp q
        omega
      · exact l359 c (by omega) _ 0 τ rfl (by omega) hF hA (fun υ g1 g2 => ih (c + 1) υ (by omega) (by omega) g1 g2)
  exact l349 _ 0 σ rfl (Nat.zero_le _) (FrAn.refl σ) (fun c' i' h => by omega)
end RB4

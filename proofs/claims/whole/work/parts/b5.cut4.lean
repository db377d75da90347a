/-! THE CLASS: cut() whole -/
theorem cs_c : ∀ a k, ΦC.cst a k = true → a < ΦC.sh0.length := fun a k h => by
  by_cases q : a < sh0C.length
  · exact q
  · have h : cstC a k = true := h
    unfold cstC at h
    rw [List.getElem?_eq_none (by omega)] at h
    cases h
section CUT5
variable {Z : zT} {d : Nat} {t : Nat → Int32} {n A m : Nat} {σ τ υ : Sg} {K : kS} {cap b0 b1 b2 b3 : Nat}
theorem cl_skR (F : FX ΦC σ.sh σ.r) (T : TxC t n A m σ) : ∀ f a, a ≤ n → n - a ≤ f → K (.inl (some (.int (Int32.ofNat (skR t n f a))))) σ → C_X8_cutOne_51 Z (d + 1) σ A (Int32.ofNat n) (Int32.ofNat a) K
  | 0, a, ha, hf, w => by
    have x2 := T.2.1
    refine T_X8_cutOne_51 F ⟨fun _ => w, fun z => absurd ?_ z⟩
    rw [oN_le (by omega) (by omega)]
    omega
  | f + 1, a, ha, hf, w => by
    have T' := T
    obtain ⟨h1, h2, h3, h4, h5⟩ := T
    have e : skR t n (f + 1) a = if a < n then (if t a = 10 then a else skR t n f (a + 1)) else a := rfl
    rw [e] at w
    by_cases q : a < n
    · rw [if_pos q] at w
      refine T_X8_cutOne_51 F ⟨fun z => absurd z ?_, fun _ => ⟨m, h1, ib_oN (by omega) (by omega), ?_⟩⟩
      · rw [oN_le (by omega) (by omega)]
        omega
      · rw [oN_t (by omega), h3 a q, oN_1]
        refine ⟨fun z => ?_, fun z => ?_⟩
        · rw [if_pos z] at w
          exact w
        · rw [if_neg z] at w
          exact cl_skR F T' f (a + 1) (by omega) (by omega) w
    · rw [if_neg q] at w
      refine T_X8_cutOne_51 F ⟨fun _ => w, fun z => absurd ?_ z⟩
      rw [oN_le (by omega) (by omega)]
      omega
theorem cl_one {k a : Nat} (hZ : ZK Z) (hd : 20 ≤ d) (F : FX ΦC σ.sh σ.r) (T : TxC t n A m σ) (S : SgA σ cap b0 b1 b2 b3) (e4 : σ.i 41 4 = Int32.ofNat k) (hk : k < cap) (ha : a < n)
    (h1 : ∀ a', a < a' → a' ≤ n → skB t n (n - a') a' = skB t n (n - a) a → K (.inl (some (.int (Int32.ofNat a')))) σ)
    (h2 : skB t n (n - a) a = a → ∀ τ, PuR t n b0 b1 b2 b3 k a σ τ → K (.inl (some (.int (Int32.ofNat (enC t n a))))) τ) : C_X8_cutOne_0 Z d σ A (Int32.ofNat n) (Int32.ofNat a) K := by
  obtain ⟨d, rfl⟩ : ∃ e, d = e + 2 := ⟨d - 2, by omega⟩
  have T' := T
  obtain ⟨x1, x2, x3, x4, x5⟩ := T
  have hb := x4 a
  have sk : ∀ r, n - a = r + 1 → skB t n (n - a) a = (if t a = 36 then skB t n r (skR t n (n - a) a) else if t a = 9 ∨ t a = 10 ∨ t a = 13 ∨ t a = 32 then skB t n r (a + 1) else a) := fun r hr => by
    conv => lhs; rw [hr, skB, if_pos ha]
  obtain ⟨r, hr⟩ : ∃ r, n - a = r + 1 := ⟨n - a - 1, by omega⟩
  have sk := sk r hr
  have blank : t a = 9 ∨ t a = 10 ∨ t a = 13 ∨ t a = 32 → K (.inl (some (.int (Int32.ofNat a + (1 : Int32))))) σ := fun z => by
    rw [oN_1]
    refine h1 (a + 1) (by omega) (by omega) ?_
    rw [sk, if_neg (by rcases z with z | z | z | z <;> rw [z] <;> decide), if_pos z, show n - (a + 1) = r by omega]
  have ue : ∀ c : Nat, c < 128 → ((t a &&& 255) = Int32.ofNat c ↔ t a = Int32.ofNat c) := fun c hc => ub_eq hb hc
  refine T_X8_cutOne_0 F ⟨m, x1, ib_oN (by omega) (by omega), ?_⟩
  rw [oN_t (by omega), x3 a ha]
  refine ⟨fun z => blank (Or.inr (Or.inr (Or.inr ((ue 32 (by decide)).mp z)))), fun n32 => ⟨fun z => blank (Or.inl ((ue 9 (by decide)).mp z)), fun n9 => ⟨fun z => blank (Or.inr (Or.inl ((ue 10 (by decide)).mp z))), fun n10 => ⟨fun n13 => ⟨fun n36 => ?_, fun z => ?_⟩, fun z => blank (Or.inr (Or.inr (Or.inl ((ue 13 (by decide)).mp z))))⟩⟩⟩⟩
  · have nb : ¬ (t a = 9 ∨ t a = 10 ∨ t a = 13 ∨ t a = 32) := by
      rintro (z | z | z | z)
      · exact n9 ((ue 9 (by decide)).mpr z)
      · exact n10 ((ue 10 (by decide)).mpr z)
      · exact n13 ((ue 13 (by decide)).mpr z)
      · exact n32 ((ue 32 (by decide)).mpr z)
    have n36' : ¬ t a = 36 := fun z => n36 ((ue 36 (by decide)).mpr z)
    have h2 := h2 (by rw [sk, if_neg n36', if_neg nb])
    have hu := ub_i hb
    have dg := (cdN_i (t a)).2.2.1
    have lt : ∀ k : Nat, k < 2147483648 → ((t a &&& 255) < Int32.ofNat k ↔ (t a &&& 255).toInt < k) ∧ (Int32.ofNat k < (t a &&& 255) ↔ (k : Int) < (t a &&& 255).toInt) := fun k hk => ⟨(i32_le_k _ k hk).2, (i32_le_k _ k hk).1⟩
    have p97 : ¬ isDig (t a) → C_X8_cutOne_97 Z (d + 1 + 1) σ A (Int32.ofNat n) (Int32.ofNat a) (t a &&& 255) K := fun nd => by
      refine T_X8_cutOne_97 F (cl_code F ?_)
      rw [ub_cd hb]
      have cb := cdN_b (t a)
      show (_ → _) ∧ (_ → _)
      rw [show (0 : Int32) = Int32.ofNat 0 from rfl, oN_le (by omega) (by decide)]
      refine ⟨fun z => ?_, fun z => ?_⟩
      · have nm : ¬ nmC (t a) := fun y => by have := (cdN_nm (t a)).mp y; omega
        exact cl_mark hZ (by omega) F T' S e4 hk ha (fun y => nm (Or.inl y)) nd h2
      · have nm : nmC (t a) := (cdN_nm (t a)).mpr (by omega)
        have hL : isLet (t a) := by
          rcases nm with y | y
          · exact y
          · exact absurd y nd
        exact cl_name hZ (by omega) F T' S e4 hk ha hL h2
    unfold by8 at hb
    refine ⟨fun z => p97 (fun y => ?_), fun z => ⟨fun z2 => p97 (fun y => ?_), fun z2 => ?_⟩⟩
    · have z := ((lt 48 (by decide)).1).mp z
      have y := dg.mp y
      rw [hu] at z
      split at z <;> omega
    · have z2 := ((lt 57 (by decide)).2).mp z2
      have y := dg.mp y
      rw [hu] at z2
      split at z2 <;> omega
    · have z : ¬ (t a &&& 255).toInt < (48 : Nat) := fun y => z (((lt 48 (by decide)).1).mpr y)
      have z2 : ¬ ((57 : Nat) : Int) < (t a &&& 255).toInt := fun y => z2 (((lt 57 (by decide)).2).mpr y)
      have hD : isDig (t a) := dg.mpr (by
        rw [hu] at z z2
        split at z <;> rename_i q <;> first | (rw [if_pos q] at z2; omega) | (rw [if_neg q] at z2; omega))
      obtain ⟨d, rfl⟩ : ∃ e, d = e + 1 := ⟨d - 1, by omega⟩
      exact cl_number F T' S e4 hk ha hD (fun τ g => h2 τ g)
  · have z : t a = 36 := (ue 36 (by decide)).mp z
    refine cl_skR F T' (n - a) a (by omega) (Nat.le_refl _) ?_
    have g := skR_gt t n (m := r) ha z
    rw [← hr] at g
    have gl := (skR_le t n (n - a) a).2 (by omega)
    refine h1 _ g gl ?_
    rw [sk, if_pos z]
    exact (skB_fu t n r _ (by omega)).symm
/-- all the signs, in the heap -/
def SgS (t : Nat → Int32) (n N : Nat) (σ : Sg) (b0 b1 b2 b3 : Nat) : Prop := σ.i 41 4 = Int32.ofNat (N + 1) ∧ (∀ j, j ≤ N → Sg1 t n σ b0 b1 b2 b3 j (sgP t n j)) ∧ SgE t n N ∧ N ≤ n
theorem cl_cut64 (hZ : ZK Z) (hd : 21 ≤ d) (F : FX ΦC σ.sh σ.r) (T : TxC t n A m σ) (S : SgA σ cap b0 b1 b2 b3) (hcap : n + 2 ≤ cap) (h : ∀ τ N, CtF b0 b1 b2 b3 σ τ → SgS t n N τ b0 b1 b2 b3 → K (.inl none) τ) : ∀ f a k turn τ, n - a ≤ f → a ≤ n → k ≤ a → turn ≤ a → CtF b0 b1 b2 b3 σ τ → τ.i 41 4 = Int32.ofNat k → (∀ j, j < k → Sg1 t n τ b0 b1 b2 b3 j (sgP t n j) ∧ tyS t n (sgP t n j) ≠ 0) → skB t n (n - a) a = sgP t n k → C_X8_cut_64 Z (d + 1) τ A (Int32.ofNat n) (Int32.ofNat a) (Int32.ofNat turn) K := by
  have x2 := T.2.1
  have hc := S.2.2.2.2.2.2.2.2.2
  have fin : ∀ k τ, k ≤ n → CtF b0 b1 b2 b3 σ τ → τ.i 41 4 = Int32.ofNat k → (∀ j, j < k → Sg1 t n τ b0 b1 b2 b3 j (sgP t n j) ∧ tyS t n (sgP t n j) ≠ 0) → n = sgP t n k → C_X8_put_0 Z d τ 0 (Int32.ofNat n) 0 0 (yN K fun τ => K (.inl none) τ) := by
    intro k τ hk g e4 hs hn
    obtain ⟨d, rfl⟩ : ∃ e, d = e + 1 := ⟨d - 1, by omega⟩
    have ty : tyS t n n = 0 := ty_0.mpr (by omega)
    refine cl_puts (g.fx F) (S.ct g) e4 (by omega) (p := n) (t := t) (n := n) (by rw [ty]; rfl) (by unfold hdS; rw [ty]; rfl) (by unfold tlS; rw [ty]; rfl) (fun υ pu => ?_)
    obtain ⟨p1, p2, p3, p4⟩ := pu
    refine h υ k (g.tr p1) ⟨p2, fun j hj => ?_, ⟨by rw [← hn]; exact ty, fun j hj => (hs j hj).2⟩, hk⟩
    by_cases z : j = k
    · rw [z, ← hn]
      exact p4
    · obtain ⟨s1, s2, s3, s4⟩ := (hs j (by omega)).1
      obtain ⟨q1, q2, q3, q4⟩ := p3 j z
      exact ⟨q1.trans s1, q2.trans s2, q3.trans s3, q4.trans s4⟩
  intro f
  induction f with
  | zero =>
    intro a k turn τ hf ha hka hta g e4 hs hn
    have e : a = n := by omega
    have hn' : n = sgP t n k := by
      rw [← hn, show n - a = 0 by omega]
      exact e.symm
    refine T_X8_cut_64 (g.fx F) ⟨fun _ => fin k τ (by omega) g e4 hs hn', fun _ => ⟨fun _ => fin k τ (by omega) g e4 hs hn', fun z => absurd ?_ z⟩⟩
    rw [oN_le (by omega) (by omega)]
    omega
  | succ f ih =>
    intro a k turn τ hf ha hka hta g e4 hs hn
    by_cases q : a < n
    · refine T_X8_cut_64 (g.fx F) ⟨fun z => absurd z ?_, fun _ => ⟨fun z => absurd z ?_, fun _ => ?_⟩⟩
      · rw [oN_le (by omega) (by omega)]
        omega
      · rw [oN_le (by omega) (by omega)]
        omega
      · refine cl_one hZ (by omega) (g.fx F) (T.ct S g) (S.ct g) e4 (by omega) q (fun a' g1 g2 g3 => ?_) (fun hsk υ pu => ?_)
        · show C_X8_cut_64 Z (d + 1) τ A (Int32.ofNat n) (Int32.ofNat a') (Int32.ofNat turn + 1) K
          rw [oN_1]
          exact ih a' k (turn + 1) τ (by omega) g2 (by omega) (by omega) g e4 hs (g3.trans hn)
        · show C_X8_cut_64 Z (d + 1) υ A (Int32.ofNat n) (Int32.ofNat (enC t n a)) (Int32.ofNat turn + 1) K
          rw [oN_1]
          obtain ⟨p1, p2, p3, p4⟩ := pu
          have hka' : sgP t n k = a := hn.symm.trans hsk
          have tn0 : tyS t n a ≠ 0 := fun z => ty_0.mp z q
          have en1 : a < enS t n a := by
            have := nxS_gt (t := t) q
            unfold enS
            rw [if_pos q]
            split
            · rename_i hl
              exact skN_gt q hl
            · split
              · rename_i hl
                exact skD_gt q hl
              · split <;> omega
          have en2 := enS_le t (n := n) (p := a) (by omega)
          have en3 : a < enC t n a ∧ enC t n a ≤ n := by
            unfold enC
            split <;> omega
          refine ih (enC t n a) (k + 1) (turn + 1) υ (by omega) (by omega) (by omega) (by omega) (g.tr p1) p2 (fun j hj => ?_) ?_
          · by_cases z : j = k
            · rw [z, hka']
              exact ⟨p4, tn0⟩
            · obtain ⟨s1, s2, s3, s4⟩ := (hs j (by omega)).1
              obtain ⟨q1, q2, q3, q4⟩ := p3 j z
              exact ⟨⟨q1.trans s1, q2.trans s2, q3.trans s3, q4.trans s4⟩, (hs j (by omega)).2⟩
          · rw [sgP, hka']
            unfold enC
            split
            · rw [Nat.sub_self]
              rfl
            · rfl
    · have e : a = n := by omega
      have hn' : n = sgP t n k := by
        rw [← hn, show n - a = 0 by omega]
        exact e.symm
      refine T_X8_cut_64 (g.fx F) ⟨fun _ => fin k τ (by omega) g e4 hs hn', fun _ => ⟨fun _ => fin k τ (by omega) g e4 hs hn', fun z => absurd ?_ z⟩⟩
      rw [oN_le (by omega) (by omega)]
      omega
end CUT5

/-! THE REFERENCE'S READER: kind(), whole -/
theorem RwIs.mk {τ : Sg} {A w k : Nat} {L : List Nat} (h0 : τ.i (A + 4 + 1 + w) 0 = Int32.ofNat k) (hR : RowIs τ (A + 4 + 1 + w) L) (h8 : τ.i (A + 8) w = Int32.ofNat (1 + L.length)) (hL : L.Nodup) (hk : ∀ z ∈ L, z < k) (hk24 : k < 24) : RwIs τ A w (k :: L) ∧ ∀ z ∈ k :: L, z ≤ k := by
  have hl := nd_len k L hL hk
  refine ⟨⟨by rw [h8, List.length_cons, Nat.add_comm], by rw [List.length_cons]; omega, fun z hz => ?_, fun i y hy => ?_⟩, fun z hz => ?_⟩
  · rcases List.mem_cons.mp hz with q | q
    · omega
    · have := hk z q
      omega
  · cases i with
    | zero =>
      cases hy
      exact h0
    | succ i =>
      have := hR i y hy
      rw [Nat.add_comm 1 i] at this
      exact this
  · rcases List.mem_cons.mp hz with q | q
    · omega
    · have := hk z q
      omega
section KINDE
variable {Z : zT} {d : Nat} {t : Nat → Int32} {n : Nat} {B : Int32 × Int32 × Rf} {σ0 σ τ υ : Sg} {m0 : Nat} {ks : List Knd} {cs : List Cal} {ls : List (List Int32)} {w : Int} {p p' c : Nat} {vs : List (Nat × Nat)} {es es' E : Evs} {m : Nat} {lst : List Nat} {cap u u' : Nat} {K : kS} {A : Nat}
theorem DS.skip {x y : Nat} (hk : (x, y) ∈ wdL) (hZ : ZK Z) (hd : 16 ≤ d) (D : DS t n B σ0 m0 ks cs ls w m lst cap u τ p es) (h1 : tyS t n p = y → ∀ υ, DS t n B σ0 m0 ks cs ls w m lst cap u υ (nxS t n p) es → RF 5 0 τ υ lst cap lst cap (fun _ => False) → K (.inl (some (.int 1))) υ) (h0 : tyS t n p ≠ y → K (.inl (some (.int 0))) τ) : B_X23_skip_0 Z d τ (Rf.old x) K := rx_skip hk hZ hd D.1 (fun h υ S G => h1 h υ (D.rf S (by omega) G) G) h0
theorem rw_get {ks : List Knd} {k w : Nat} {x : Knd} (h : ks[k]? = some x) : rwW ks w k = rwK x w := by
  unfold rwW
  rw [h]
/-- from the word bare on -/
theorem kd_296 (hZ : ZK Z) (hd : 16 ≤ d) {l1 : Nat} {nm : List Int32} {ps : List Nat} {g : Bool} (hl1 : l1 ≤ 8192) (hes : es.length ≤ 9000) (pA : sh0R[A]? = some (Sh.obj 18)) (hA : (A = 38 ∧ ks.length = 24) ∨ (A = 2193 + 9 * ks.length ∧ ks.length < 24))
    (D : DS t n B σ m0 ks cs ls w m lst cap u τ p (E ++ es)) (Q : KdQ τ A nm ps ks.length)
    (h1 : ∀ b p', (if tyS t n p = 21 then b = true ∧ p' = nxS t n p else b = false ∧ p' = p) → tyS t n p' = 7 → ∀ (o : Option Knd) (e5 : Evs), (ks.length = 24 ∨ g = false → o = none ∧ e5 = []) → (¬ (ks.length = 24 ∨ g = false) → o = some (nm, b, ps, (rwN ks.length ps (rwW ks)).1, (rwN ks.length ps (rwW ks)).2.1, (rwN ks.length ps (rwW ks)).2.2.1) ∧ e5 = (if es = [] ∧ (rwN ks.length ps (rwW ks)).2.2.2 = false then [(l1, 5)] else [])) → ∀ υ, DS t n B υ m0 (adO ks o) cs ls w m lst cap u υ (nxS t n p') (E ++ es ++ e5) → TF ks.length cs.length ls.length m0 σ υ lst cap lst cap (fun _ => False) → υ.i 0 6 = σ.i 0 6 → K (.inl none) υ)
    (h0 : ∀ b p', (if tyS t n p = 21 then b = true ∧ p' = nxS t n p else b = false ∧ p' = p) → tyS t n p' ≠ 7 → ∀ υ a, WT n ks.length cs.length ls.length m0 σ lst m cap υ a p' → K (.inr ("DispatchHouseModel$Wrong", a)) υ) : B_X23_kind_296 Z (d + 1) τ (Int32.ofNat l1) (B.1 + Int32.ofNat E.length) A (if g = true then 1 else 0) K := by
  have hk24 := D.2.1.1.2.1
  have hf : ∀ a, A ≤ a → a < A + 9 → fre ks.length cs.length ls.length a := fun a a1 a2 => by unfold fre; omega
  have hA9 : 9 ≤ A ∧ A + 8 < 3365 ∧ (A + 8 < 54 ∨ 54 < A) := by omega
  -- behind the word
  have go : ∀ (b : Bool) p' τ1, (if tyS t n p = 21 then b = true ∧ p' = nxS t n p else b = false ∧ p' = p) → DS t n B σ m0 ks cs ls w m lst cap u τ1 p' (E ++ es) → KdQ τ1 A nm ps ks.length → B_X23_want_0 Z d (τ1.wi A 1 (if b = true then 1 else 0)) 59 (yN K fun τ5 => ((τ5.i 0 4) = 24 → K (.inl none) τ5) ∧ (¬ (τ5.i 0 4) = 24 → (¬ (if g = true then (1 : Int32) else 0) = 0 → B_X23_makeRows_0 Z d τ5 (τ5.i 0 4) (yI K fun v9 τ7 => (¬ v9 = 0 → K (.inl none) (τ7.wi 0 4 ((τ7.i 0 4) + (1 : Int32)))) ∧ (v9 = 0 → (¬ (τ7.i 0 27) = (B.1 + Int32.ofNat E.length) → K (.inl none) (τ7.wi 0 4 ((τ7.i 0 4) + (1 : Int32)))) ∧ ((τ7.i 0 27) = (B.1 + Int32.ofNat E.length) → B_X23_breaks_0 Z d τ7 5 (Int32.ofNat l1) (yN K fun τ10 => K (.inl none) (τ10.wi 0 4 ((τ10.i 0 4) + (1 : Int32)))))))) ∧ ((if g = true then (1 : Int32) else 0) = 0 → K (.inl none) τ5))) := by
    intro b p' τ1 hbp D1 Q1
    have D2 : DS t n B σ m0 ks cs ls w m lst cap u (τ1.wi A 1 (if b = true then 1 else 0)) p' (E ++ es) := D1.w1 (hf A (by omega) (by omega))
    have Q2 : KdQ (τ1.wi A 1 (if b = true then 1 else 0)) A nm ps ks.length := ⟨Q1.1.mono (wi_row (by omega)) (wi_row (by omega)), (wi_ne (by omega)).trans Q1.2.1, fun i x hx => (wi_ne (by omega)).trans (Q1.2.2.1 i x hx), Q1.2.2.2⟩
    refine D2.want (y := 7) (by decide) hZ (by omega) (fun y7 τ5 D5 G5 => ?_) (fun n7 υ a wt => h0 b p' hbp n7 υ a wt)
    have Q5 := Q2.fr D2 hA9 G5
    have b5 : τ5.i A 1 = if b = true then 1 else 0 := by
      rw [D2.lo G5 (by omega) (by omega) (by omega)]
      exact wi_at _ _ _ _
    have e4 := D5.2.1.1.1
    have hnone : ks.length = 24 ∨ g = false → K (.inl none) τ5 := fun hh => h1 b p' hbp y7 none [] (fun _ => ⟨rfl, rfl⟩) (fun z => absurd hh z) τ5 ⟨by rw [List.append_nil]; exact D5.1, D5.2.1, TF.refl _ _ _ _ _ _ _ _, rfl⟩ D5.2.2.1 D5.2.2.2
    refine ⟨fun z => hnone (Or.inl ?_), fun z => ⟨fun y => ?_, fun y => hnone (Or.inr ?_)⟩⟩
    · exact (oN_eq (b := 24) (by omega) (by omega)).mp (e4.symm.trans z)
    · have hlt : ks.length < 24 := by
        refine Nat.lt_of_le_of_ne hk24.2 (fun x => z ?_)
        rw [e4, x]
        rfl
      have hg : g = true := by
        cases g
        · exact absurd rfl y
        · rfl
      have eA : A = 2193 + 9 * ks.length := by omega
      subst eA
      rw [e4]
      obtain ⟨d, rfl⟩ : ∃ e, d = e + 2 := ⟨d - 2, by omega⟩
      have hget : ∀ q ∈ ps, ∃ x, ks[q]? = some x ∧ Kd1 τ5 q x := fun q hq => by
        have hlt2 := Q5.2.2.2.2 q hq
        exact ⟨_, List.getElem?_eq_getElem hlt2, D5.2.1.1.2.2 q _ (List.getElem?_eq_getElem hlt2)⟩
      have hpl := Q5.ln
      refine rf_makeRows (rs := rwW ks) D5.1.fx (by omega) Q5.2.2.2.2 (by omega) (fun w' hw q hq => ?_) Q5.2.1 Q5.2.2.1 (fun w' hw q hq => ?_) (fun w' hw q hq i x hx => ?_) (fun τ7 L1 L2 L0 bb mk => ?_)
      · obtain ⟨x, hx, kd⟩ := hget q hq
        have hq2 := Q5.2.2.2.2 q hq
        rw [rw_get hx]
        obtain ⟨g1, g2⟩ := kd.2.2.2.2.2 w' hw
        exact ⟨g1.2.1, fun z hz => by have := g2 z hz; omega⟩
      · obtain ⟨x, hx, kd⟩ := hget q hq
        rw [rw_get hx]
        exact (kd.2.2.2.2.2 w' hw).1.1
      · obtain ⟨y, hy, kd⟩ := hget q hq
        rw [rw_get hy] at hx
        exact (kd.2.2.2.2.2 w' hw).1.2.2.2 i x hx
      · have ern := mkR_f mk
        obtain ⟨m1, m2, m3, m4, m5, m6, m7, m8, m9, m10, m11, -, -, -, n1, n2, n3, n4, n5, n6⟩ := mk
        have D7 : DS t n B σ m0 ks cs ls w m lst cap u τ7 (nxS t n p') (E ++ es) := D5.dw m1 m2 m3 (fun a ha => funext fun j => m4 a j (fun q => ha (Or.inl q)) (fun q => ha (by rw [q]; exact hf _ (by show 2193 + 9 * ks.length ≤ 2193 + 9 * ks.length + 5; omega) (by show 2193 + 9 * ks.length + 5 < _; omega))) (fun q => ha (by rw [q]; exact hf _ (by show 2193 + 9 * ks.length ≤ 2193 + 9 * ks.length + 6; omega) (by show 2193 + 9 * ks.length + 6 < _; omega))) (fun q => ha (by rw [q]; exact hf _ (by show 2193 + 9 * ks.length ≤ 2193 + 9 * ks.length + 7; omega) (by show 2193 + 9 * ks.length + 7 < _; omega))) (fun q => ha (by rw [q]; exact hf _ (by show 2193 + 9 * ks.length ≤ 2193 + 9 * ks.length + 8; omega) (by show 2193 + 9 * ks.length + 8 < _; omega))))
        have i7 : ∀ a, a ∈ [2193 + 9 * ks.length, 2193 + 9 * ks.length + 1, 2193 + 9 * ks.length + 2, 2193 + 9 * ks.length + 3] → τ7.i a = τ5.i a := fun a ha => by
          simp only [List.mem_cons, List.not_mem_nil, or_false] at ha
          exact funext fun j => m4 a j (by omega) (by show a ≠ 2193 + 9 * ks.length + 5; omega) (by show a ≠ 2193 + 9 * ks.length + 6; omega) (by show a ≠ 2193 + 9 * ks.length + 7; omega) (by show a ≠ 2193 + 9 * ks.length + 8; omega)
        -- the kind that is new
        have key : ∀ τ8 : Sg, τ8.i 0 4 = Int32.ofNat ks.length → (∀ a, 38 ≤ a → a < 3365 → a ≠ 54 → τ8.i a = τ7.i a) → Kd1 (τ8.wi 0 4 (τ8.i 0 4 + 1)) ks.length (nm, b, ps, (rwN ks.length ps (rwW ks)).1, (rwN ks.length ps (rwW ks)).2.1, (rwN ks.length ps (rwW ks)).2.2.1) := by
          intro τ8 e48 hi8
          have f8 : ∀ a, 2193 + 9 * ks.length ≤ a → a < 2193 + 9 * ks.length + 9 → (τ8.wi 0 4 (τ8.i 0 4 + 1)).i a = τ7.i a := fun a a1 a2 => (wi_row (by omega)).trans (hi8 a (by omega) (by omega) (by omega))
          have f5 : ∀ a, 2193 + 9 * ks.length ≤ a → a < 2193 + 9 * ks.length + 4 → (τ8.wi 0 4 (τ8.i 0 4 + 1)).i a = τ5.i a := fun a a1 a2 => (f8 a a1 (by omega)).trans (i7 a (by simp only [List.mem_cons, List.not_mem_nil, or_false]; omega))
          rw [ern]
          refine ⟨Q5.1.mono (f5 _ (by omega) (by omega)) (f5 _ (by omega) (by omega)), ?_, ?_, fun i x hx => ?_, ⟨by show ps.length ≤ 24; omega, Q5.2.2.2.2⟩, fun w' hw => ?_⟩
          · rw [f5 _ (by omega) (by omega)]
            exact b5
          · rw [f5 _ (by omega) (by omega)]
            exact Q5.2.1
          · rw [f5 _ (by omega) (by omega)]
            exact Q5.2.2.1 i x hx
          · have hR : ∀ w' L, w' < 3 → RowIs τ7 (2193 + 9 * ks.length + 4 + 1 + w') L → RowIs (τ8.wi 0 4 (τ8.i 0 4 + 1)) (2193 + 9 * ks.length + 4 + 1 + w') L := fun w' L hw h i y hy => by
              rw [f8 _ (by omega) (by omega)]
              exact h i y hy
            have h05 : ∀ w', w' < 3 → (τ8.wi 0 4 (τ8.i 0 4 + 1)).i (2193 + 9 * ks.length + 4 + 1 + w') 0 = Int32.ofNat ks.length := fun w' hw => by
              rw [f8 _ (by omega) (by omega)]
              exact m5 w' hw
            have h8 : (τ8.wi 0 4 (τ8.i 0 4 + 1)).i (2193 + 9 * ks.length + 8) = τ7.i (2193 + 9 * ks.length + 8) := f8 _ (by omega) (by omega)
            match w', hw with
            | 0, _ => exact RwIs.mk (h05 0 (by omega)) (hR 0 L0 (by omega) m8) (by rw [h8]; exact m11) n3 n6 hlt
            | 1, _ => exact RwIs.mk (h05 1 (by omega)) (hR 1 L1 (by omega) m6) (by rw [h8]; exact m9) n1 n4 hlt
            | 2, _ => exact RwIs.mk (h05 2 (by omega)) (hR 2 L2 (by omega) m7) (by rw [h8]; exact m10) n2 n5 hlt
        have fin : ∀ (τ8 : Sg) (e5 : Evs), DS t n B σ m0 ks cs ls w m lst cap u τ8 (nxS t n p') (E ++ es ++ e5) → (∀ a, 38 ≤ a → a < 3365 → a ≠ 54 → τ8.i a = τ7.i a) → e5 = (if es = [] ∧ (rwN ks.length ps (rwW ks)).2.2.2 = false then [(l1, 5)] else []) → K (.inl none) (τ8.wi 0 4 (τ8.i 0 4 + 1)) := by
          intro τ8 e5 D8 hi8 he5
          have e48 := D8.2.1.1.1
          have nw := key τ8 e48 hi8
          have fi : ∀ a, a ≠ 0 → (τ8.wi 0 4 (τ8.i 0 4 + 1)).i a = τ8.i a := fun a ha => wi_row ha
          have f0 : ∀ k, ¬ (4 ≤ k ∧ k ≤ 7) → (τ8.wi 0 4 (τ8.i 0 4 + 1)).i 0 k = τ8.i 0 k := fun k hk => wi_ne (by omega)
          have ew := D8.2.1.w D8.1.en
          obtain ⟨x, hx⟩ : ∃ x : Knd, x = (nm, b, ps, (rwN ks.length ps (rwW ks)).1, (rwN ks.length ps (rwW ks)).2.1, (rwN ks.length ps (rwW ks)).2.2.1) := ⟨_, rfl⟩
          rw [← hx] at nw
          have W4 : W3 (ks ++ [x]) cs ls (τ8.wi 0 4 (τ8.i 0 4 + 1)) := by
            obtain ⟨⟨k1, k2, k3⟩, hc, hly⟩ := D8.2.1
            have hc2 := hc.2.1
            refine ⟨⟨?_, ?_, fun k y q => ?_⟩, ⟨(wi_ne (by decide)).trans hc.1, hc.2.1, fun k x q => (hc.2.2 k x q).mono (fun a a1 _ => fi a (by omega))⟩, (wi_ne (by decide)).trans hly.1, hly.2.1, fun k x q => (hly.2.2 k x q).mono (fi _ (by omega)) (fi _ (by omega))⟩
            · rw [wi_at, e48, oN_1, List.length_append]
              rfl
            · rw [List.length_append]
              show 1 ≤ ks.length + 1 ∧ ks.length + 1 ≤ 24
              omega
            · by_cases hkl : k < ks.length
              · rw [List.getElem?_append_left hkl] at q
                exact (k3 k y q).mono (fun a a1 _ => fi a (by omega))
              · rw [List.getElem?_append_right (by omega)] at q
                have hk0 : k = ks.length := by
                  have := (List.getElem?_eq_some_iff.mp q).1
                  have e1 : List.length [x] = 1 := rfl
                  omega
                subst hk0
                rw [Nat.sub_self] at q
                cases q
                exact nw
          have S4 : RX t n (enW (ks ++ [x]) cs ls w) B (τ8.wi 0 4 (τ8.i 0 4 + 1)) (nxS t n p') (E ++ es ++ e5) m lst cap u := D8.1.dw rfl rfl (fun a ha => fi a (by omega)) f0 (W4.en (fun q => ⟨(f0 33 (by decide)).trans (ew q).1, (ew q).2⟩))
          refine h1 b p' hbp y7 (some x) e5 (fun z => ?_) (fun z => ⟨by rw [hx], he5⟩) _ ⟨S4, W4, TF.refl _ _ _ _ _ _ _ _, rfl⟩ (D8.2.2.1.tr (tf_i (m0 := m0) (τ := τ8.wi 0 4 (τ8.i 0 4 + 1)) rfl rfl rfl (fun a a0 _ => fi a a0) f0) (fun _ z => z) (Nat.le_refl _) (Nat.le_refl _) (Nat.le_refl _) (Nat.le_refl m0)) ((wi_ne (by decide)).trans D8.2.2.2)
          rcases z with z | z
          · omega
          · rw [hg] at z
            cases z
        have h27 : τ7.i 0 27 = B.1 + Int32.ofNat E.length + Int32.ofNat es.length := by
          rw [D7.1.rl.2.1, List.length_append, Int32.add_assoc, oN_add]
        have heq27 : τ7.i 0 27 = B.1 + Int32.ofNat E.length ↔ es = [] := by
          rw [h27]
          constructor
          · intro z
            have z2 : Int32.ofNat es.length = 0 := by
              have z3 : B.1 + Int32.ofNat E.length + Int32.ofNat es.length = B.1 + Int32.ofNat E.length + 0 := by rw [z, Int32.add_zero]
              exact (Int32.add_right_inj _).mp z3
            have := (oN_eq (b := 0) (by omega) (by omega)).mp z2
            exact List.eq_nil_of_length_eq_zero this
          · intro z
            rw [z]
            exact Int32.add_zero _
        have e4r : (rwN ks.length ps (rwW ks)).2.2.2 = bb := by rw [ern]
        refine ⟨fun z => ?_, fun z => ⟨fun y => ?_, fun y => ?_⟩⟩
        · refine fin τ7 [] (by rw [List.append_nil]; exact D7) (fun _ _ _ _ => rfl) ?_
          rw [if_neg]
          rintro ⟨-, q⟩
          rw [e4r] at q
          rw [q] at z
          exact z rfl
        · refine fin τ7 [] (by rw [List.append_nil]; exact D7) (fun _ _ _ _ => rfl) ?_
          rw [if_neg]
          rintro ⟨q, -⟩
          exact y (heq27.mpr q)
        · refine D7.brk (r := 5) (by omega) hl1 (by decide) (fun τ8 D8 G8 => fin τ8 [(l1, 5)] D8 (fun a a1 a2 a3 => D7.lo G8 (by omega) a2 a3) ?_)
          rw [if_pos]
          refine ⟨heq27.mp y, ?_⟩
          rw [e4r]
          cases bb
          · rfl
          · exact absurd z (by decide)
    · cases g
      · rfl
      · exact absurd y (by decide)
  refine S_X23_kind_296 D.1.fx pA (D.skip (y := 21) (by decide) hZ (by omega) (fun y21 τ1 D1 G1 => ⟨⟨rfl, rfl⟩, ?_⟩) (fun n21 => ⟨⟨rfl, rfl⟩, ?_⟩))
  · exact go true _ τ1 (by rw [if_pos y21]; exact ⟨rfl, rfl⟩) D1 (Q.fr D hA9 G1)
  · exact go false _ τ (by rw [if_neg n21]; exact ⟨rfl, rfl⟩) D Q
/-- kind() -/
theorem rs_kindD (hZ : ZK Z) (hd : 16 ≤ d) (hb : ∀ k, by8 (t k)) (S : RX t n (enW ks cs ls w) B σ p E m lst cap u) (H : W3 ks cs ls σ)
    (h1 : ∀ p' es x, pKi t n (enW ks cs ls w) ks.length (rwW ks) p = .inr (p', es, x) → ∀ τ, DS t n B τ m0 (adO ks x) cs ls w m lst cap u τ p' (E ++ es) → TF ks.length cs.length ls.length m0 σ τ lst cap lst cap (fun _ => False) → τ.i 0 6 = σ.i 0 6 → K (.inl none) τ)
    (h0 : ∀ q, pKi t n (enW ks cs ls w) ks.length (rwW ks) p = .inl q → ∀ τ a, WT n ks.length cs.length ls.length m0 σ lst m cap τ a q → K (.inr ("DispatchHouseModel$Wrong", a)) τ) : B_X23_kind_0 Z (d + 1) σ K := by
  have hpn := S.pn
  have D0 : DS t n B σ m0 ks cs ls w m lst cap u σ p E := ⟨S, H, TF.refl _ _ _ _ _ _ _ _, rfl⟩
  have hk24 := H.1.2.1
  refine S_X23_kind_0 S.fx ?_
  rw [S.cur.2.1, S.rl.2.1]
  refine rx_name hZ (by omega) S (fun hty hq hl τ1 S1 G1 => ?_) (fun n2 τ1 a wr => h0 p (by unfold pKi; rw [if_neg n2]) τ1 a (D0.wt wr))
  have D1 := D0.rf S1 (by omega) G1
  have hn1 := ty_nx (t := t) (n := n) (p := p) (by omega)
  obtain ⟨p1, e1⟩ : ∃ q, nxS t n p = q := ⟨_, rfl⟩
  have ep : pKi t n (enW ks cs ls w) ks.length (rwW ks) p = (match pKp t n (enW ks cs ls w) p1 (nmE t n (enW ks cs ls w) p (ks.length = 24)) with
    | .inl q => .inl q
    | .inr (p1, es, ps, g) =>
      if tyS t n (if tyS t n p1 = 21 then nxS t n p1 else p1) = 7 then
        (if ks.length = 24 ∨ g = false then .inr (nxS t n (if tyS t n p1 = 21 then nxS t n p1 else p1), es, none)
        else .inr (nxS t n (if tyS t n p1 = 21 then nxS t n p1 else p1), es ++ (if es = [] ∧ (rwN ks.length ps (rwW ks)).2.2.2 = false then [(p, 5)] else []), some (nmS t n p, decide (tyS t n p1 = 21), ps, (rwN ks.length ps (rwW ks)).1, (rwN ks.length ps (rwW ks)).2.1, (rwN ks.length ps (rwW ks)).2.2.1)))
      else .inl (if tyS t n p1 = 21 then nxS t n p1 else p1)) := by
    unfold pKi
    rw [if_pos hty, e1]
    rfl
  rw [e1] at D1 hn1
  have hp1n := D1.1.pn
  have goA : ∀ (A : Nat) (τ : Sg) (es : Evs), (A = 38 ∧ ks.length = 24) ∨ (A = 2193 + 9 * ks.length ∧ ks.length < 24) → sh0R[A]? = some (Sh.obj 18) → DS t n B σ m0 ks cs ls w m lst cap u τ p1 (E ++ es) → es = nmE t n (enW ks cs ls w) p (ks.length = 24) → B_X23_kind_70 Z (d + 1) τ (Int32.ofNat p) (B.1 + Int32.ofNat E.length) (Int32.ofNat (32 * p + lnS t n p)) A K := by
    intro A τ es hA pA D hes
    have hf : ∀ a, A ≤ a → a < A + 9 → fre ks.length cs.length ls.length a := fun a a1 a2 => by unfold fre; omega
    have hA9 : 9 ≤ A ∧ A + 8 < 3365 ∧ (A + 8 < 54 ∨ 54 < A) := by omega
    rw [← hes] at ep
    have hle : es.length ≤ 2 := by
      rw [hes]
      unfold nmE
      rw [List.length_append]
      have a1 := ife_len (toE (enW ks cs ls w) (nmS t n p) = true) (p, 2)
      have a2 := ife_len (ks.length = 24) (p, 7)
      omega
    -- with the parents read
    have go296 : ∀ p2 es2 ps g, pKp t n (enW ks cs ls w) p1 es = .inr (p2, es2, ps, g) → p1 ≤ p2 ∧ es2.length ≤ 9000 → ∀ υ, DS t n B σ m0 ks cs ls w m lst cap u υ p2 (E ++ es2) → KdQ υ A (nmS t n p) ps ks.length → B_X23_kind_296 Z (d + 1) υ (Int32.ofNat p) (B.1 + Int32.ofNat E.length) A (if g = true then 1 else 0) K := by
      intro p2 es2 ps g hpk hb2 υ D2 Q2
      rw [hpk] at ep
      dsimp only at ep
      refine kd_296 hZ hd (by omega) hb2.2 pA hA D2 Q2 (fun b p' hbp y7 o e5 c1 c2 υ3 D3 G3 e63 => ?_) (fun b p' hbp n7 υ3 a wt => ?_)
      · have eb : (if tyS t n p2 = 21 then nxS t n p2 else p2) = p' ∧ decide (tyS t n p2 = 21) = b := by
          split at hbp
          · rename_i h
            rw [if_pos h]
            exact ⟨hbp.2.symm, by rw [hbp.1]; exact decide_eq_true h⟩
          · rename_i h
            rw [if_neg h]
            exact ⟨hbp.2.symm, by rw [hbp.1]; exact decide_eq_false h⟩
        rw [eb.1, eb.2, if_pos y7] at ep
        by_cases hc : ks.length = 24 ∨ g = false
        · rw [if_pos hc] at ep
          obtain ⟨rfl, rfl⟩ := c1 hc
          rw [List.append_nil] at D3
          exact h1 _ _ _ ep υ3 D3 G3 e63
        · rw [if_neg hc] at ep
          obtain ⟨rfl, rfl⟩ := c2 hc
          rw [List.append_assoc] at D3
          exact h1 _ _ _ ep υ3 D3 G3 e63
      · have eb : (if tyS t n p2 = 21 then nxS t n p2 else p2) = p' := by
          split at hbp
          · rename_i h
            rw [if_pos h]
            exact hbp.2.symm
          · rename_i h
            rw [if_neg h]
            exact hbp.2.symm
        rw [eb, if_neg n7] at ep
        exact h0 _ ep υ3 a wt
    refine S_X23_kind_70 D.1.fx pA (ds_be (by omega) hb D (kF_18_1 pA) (hf _ (by omega) (by omega)) (hf _ (by omega) (by omega)) hq hl (fun τ2 D2 nm2 fr2 => ?_))
    have D3 : DS t n B σ m0 ks cs ls w m lst cap u ((τ2.wi A 1 0).wi A 3 0) p1 (E ++ es) := (D2.w1 (hf A (by omega) (by omega))).w1 (hf A (by omega) (by omega))
    have nm3 : NmIs ((τ2.wi A 1 0).wi A 3 0) (A + 1) (nmS t n p) := nm2.mono (by rw [wi_row (by omega), wi_row (by omega)]) (by rw [wi_row (by omega), wi_row (by omega)])
    refine rx_is (y := 15) (by decide) (by omega) D3.1 (fun y15 => ⟨fun z => absurd z (by decide), fun _ => ?_⟩) (fun n15 => ⟨fun _ => ?_, fun z => absurd rfl z⟩)
    · have ek : pKp t n (enW ks cs ls w) p1 es = pPa t n (enW ks cs ls w) (n + 1 - p1) p1 es [] true := by
        unfold pKp
        rw [if_pos y15]
      refine kd_115 hZ hd pA hA9 hf (n + 1 - p1) p1 es [] true _ (by omega) (by omega) D3 ⟨nm3, wi_at _ _ _ _, fun i x hx => (by cases hx), List.nodup_nil, fun x hx => (by cases hx)⟩ (fun p2 es2 ps g hpa υ D4 Q4 => ?_) (fun q hpa υ a wt => ?_)
      · have hle2 := pa_len _ _ _ _ _ _ _ _ _ (by omega) hpa
        have hp2 := D4.1.pn
        have hgt := ev_pa (a := 0) _ _ _ _ _ _ _ _ _ (by omega) hpa (Nat.zero_le _)
        refine go296 p2 es2 ps g (by rw [ek]; exact hpa) ⟨?_, by omega⟩ υ D4 Q4
        have := (ev_pa (t := t) (n := n) (env := enW ks cs ls w) (a := p) _ _ _ _ _ _ _ _ _ (by omega) hpa (by omega) (by rw [hes]; exact in_nm (by omega) (by omega))).1
        omega
      · rw [← ek] at hpa
        rw [hpa] at ep
        exact h0 q ep υ a wt
    · refine go296 p1 es [0] true ?_ ⟨Nat.le_refl _, by omega⟩ _ ((D3.w1 (hf _ (by omega) (by omega))).w1 (hf A (by omega) (by omega))) ⟨nm3.mono (by rw [wi_row (by omega), wi_row (by omega)]) (by rw [wi_row (by omega), wi_row (by omega)]), wi_at _ _ _ _, fun i x hx => ?_, List.nodup_cons.mpr ⟨List.not_mem_nil, List.nodup_nil⟩, fun x hx => ?_⟩
      · unfold pKp
        rw [if_neg n15]
      · cases i with
        | zero =>
          cases hx
          rw [wi_row (by omega)]
          exact wi_at _ _ _ _
        | succ i => cases hx
      · rw [List.mem_singleton] at hx
        omega
  have go45 : ∀ τ es, DS t n B σ m0 ks cs ls w m lst cap u τ p1 (E ++ es) → es = nmE t n (enW ks cs ls w) p (ks.length = 24) → B_X23_kind_45 Z (d + 1) τ (Int32.ofNat p) (B.1 + Int32.ofNat E.length) (Int32.ofNat (32 * p + lnS t n p)) K := by
    intro τ es D hes
    have e5 := D.2.1.1.1
    refine S_X23_kind_45 D.1.fx ⟨fun z => ?_, fun z => ?_⟩
    · rw [e5] at z
      have := (oN_le (a := 24) (by omega) (by omega)).mp z
      exact goA 38 τ es (Or.inl ⟨rfl, by omega⟩) (by decide +kernel) D hes
    · rw [e5] at z
      have hlt : ks.length < 24 := Nat.lt_of_not_le fun y => z ((oN_le (a := 24) (by omega) (by omega)).mpr y)
      rw [e5, oN_t (by omega)]
      exact ⟨ib_oN hlt (by decide), goA _ τ es (Or.inr ⟨rfl, hlt⟩) (kE_1 hlt) D hes⟩
  have go29 : ∀ τ es, DS t n B σ m0 ks cs ls w m lst cap u τ p1 (E ++ es) → es = (if toE (enW ks cs ls w) (nmS t n p) = true then [(p, 2)] else []) → B_X23_kind_29 Z (d + 1) τ (Int32.ofNat p) (B.1 + Int32.ofNat E.length) (Int32.ofNat (32 * p + lnS t n p)) K := by
    intro τ es D hes
    have e7 := D.2.1.1.1
    refine S_X23_kind_29 D.1.fx ⟨fun z => go45 τ es D ?_, fun z => D.brk (r := 7) (by omega) (by omega) (by decide) (fun τ2 D2 G2 => go45 τ2 (es ++ [(p, 7)]) (by rw [← List.append_assoc]; exact D2) ?_)⟩
    · rw [nmE_n (fun y => z (by rw [e7, y]; rfl))]
      exact hes
    · rw [nmE_y ((oN_eq (b := 24) (by omega) (by omega)).mp (e7.symm.trans z)), hes]
  refine rx_told (by omega) S1 hq hl (fun ht => ⟨fun z => absurd z (by decide), fun _ => D1.brk (r := 2) (by omega) (by omega) (by decide) (fun τ2 D2 G2 => go29 τ2 [(p, 2)] D2 ?_)⟩) (fun ht => ⟨fun _ => go29 τ1 [] (by rw [List.append_nil]; exact D1) ?_, fun z => absurd rfl z⟩)
  · rw [if_pos (show toE (enW ks cs ls w) (nmS t n p) = true from ht)]
  · rw [if_neg (show ¬ toE (enW ks cs ls w) (nmS t n p) = true from ht)]
end KINDE

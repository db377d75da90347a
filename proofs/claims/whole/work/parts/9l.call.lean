/-! THE REFERENCE'S READER: call() -/
section CALLD
variable {Z : zT} {d : Nat} {t : Nat → Int32} {n : Nat} {B : Int32 × Int32 × Rf} {σ0 σ τ υ : Sg} {m0 : Nat} {ks : List Knd} {cs : List Cal} {ls : List (List Int32)} {w : Int} {p p' c : Nat} {vs : List (Nat × Nat)} {es es' E : Evs} {m : Nat} {lst : List Nat} {cap u u' : Nat} {K : kS}
theorem DS.is {x y : Nat} (hk : (x, y) ∈ wdL) (hZ : ZK Z) (hd : 13 ≤ d) (D : DS t n B σ0 m0 ks cs ls w m lst cap u τ p es) (h1 : tyS t n p = y → K (.inl (some (.int 1))) τ) (h0 : tyS t n p ≠ y → K (.inl (some (.int 0))) τ) : B_X23_is__0 Z d τ (Rf.old x) K := rx_isw hk hZ hd D.1 h1 h0
theorem DS.no (hZ : ZK Z) (hd : 14 ≤ d) (D : DS t n B σ0 m0 ks cs ls w m lst cap u τ p es) (h : ∀ υ a, WT n ks.length cs.length ls.length m0 σ0 lst m cap υ a p → K (.inr ("DispatchHouseModel$Wrong", a)) υ) : B_X23_no_0 Z d τ (yR K fun v υ => ∃ x, aT υ v x ∧ K (.inr (x, v)) υ) := by
  obtain ⟨d, rfl⟩ : ∃ e, d = e + 2 := ⟨d - 2, by omega⟩
  exact rf_no hZ (by omega) D.1.fx fun υ a f1 f2 => ⟨_, wrg_aT f2, h υ a (D.wt (D.1.wr f1 f2))⟩
theorem DS.nx (hZ : ZK Z) (hd : 15 ≤ d) (D : DS t n B σ0 m0 ks cs ls w m lst cap u τ p es) (hp : p < n) (k : ∀ υ, DS t n B σ0 m0 ks cs ls w m lst cap u υ (nxS t n p) es → RF 5 0 τ υ lst cap lst cap (fun _ => False) → K (.inl none) υ) : B_X23_next_0 Z d τ K := rx_next hZ hd D.1 hp (fun υ S G => k υ (D.rf S (by omega) G) G)
theorem DS.want {x : Int32} {y : Nat} (hk : (x, y) ∈ mkL2) (hZ : ZK Z) (hd : 16 ≤ d) (D : DS t n B σ0 m0 ks cs ls w m lst cap u τ p es) (h1 : tyS t n p = y → ∀ υ, DS t n B σ0 m0 ks cs ls w m lst cap u υ (nxS t n p) es → RF 5 0 τ υ lst cap lst cap (fun _ => False) → K (.inl none) υ) (h0 : tyS t n p ≠ y → ∀ υ a, WT n ks.length cs.length ls.length m0 σ0 lst m cap υ a p → K (.inr ("DispatchHouseModel$Wrong", a)) υ) : B_X23_want_0 Z d τ x K := rx_want hk hZ hd D.1 (fun h υ S G => h1 h υ (D.rf S (by omega) G) G) (fun h υ a wr => h0 h υ a (D.wt wr))
/-- how a Call stands that is being read -/
def ClQ (τ : Sg) (A : Nat) (nm : List Int32) (pl : Nat) : Prop := NmIs τ (A + 1) nm ∧ τ.i A 1 = Int32.ofNat pl
theorem ClQ.fr {A : Nat} {nm : List Int32} {pl nv : Nat} (h : ClQ τ A nm pl) (D : DS t n B σ0 m0 ks cs ls w m lst cap u τ p es) (hA : 9 ≤ A ∧ A + 2 < 3365 ∧ (A + 2 < 54 ∨ 54 < A)) (G : RF 5 nv τ υ lst cap lst cap (fun _ => False)) : ClQ υ A nm pl := by
  refine ⟨h.1.mono (D.lo G (by omega) (by omega) (by omega)) (D.lo G (by omega) (by omega) (by omega)), ?_⟩
  rw [D.lo G (by omega) (by omega) (by omega)]
  exact h.2
/-- call() -/
theorem rs_callD (hZ : ZK Z) (hd : 16 ≤ d) (hb : ∀ k, by8 (t k)) (S : RX t n (enW ks cs ls w) B σ p E m lst cap u) (H : W3 ks cs ls σ)
    (h1 : ∀ p' es x, pCl t n (enW ks cs ls w) cs.length p = .inr (p', es, x) → ∀ τ, DS t n B τ m0 ks (adO cs x) ls w m lst cap u τ p' (E ++ es) → TF ks.length cs.length ls.length m0 σ τ lst cap lst cap (fun _ => False) → τ.i 0 6 = σ.i 0 6 → K (.inl none) τ)
    (h0 : ∀ q, pCl t n (enW ks cs ls w) cs.length p = .inl q → ∀ τ a, WT n ks.length cs.length ls.length m0 σ lst m cap τ a q → K (.inr ("DispatchHouseModel$Wrong", a)) τ) : B_X23_call_0 Z (d + 1) σ K := by
  have hpn := S.pn
  have D0 : DS t n B σ m0 ks cs ls w m lst cap u σ p E := ⟨S, H, TF.refl _ _ _ _ _ _ _ _, rfl⟩
  refine S_X23_call_0 S.fx ?_
  rw [S.cur.2.1]
  refine rx_name hZ (by omega) S (fun hty hq hl τ1 S1 G1 => ?_) (fun n2 τ1 a wr => h0 p (by unfold pCl; rw [if_neg n2]) τ1 a (D0.wt wr))
  have D1 := D0.rf S1 (by omega) G1
  have hcn := H.2.1.2.1
  obtain ⟨p1, e1⟩ : ∃ q, nxS t n p = q := ⟨_, rfl⟩
  obtain ⟨p2, e2⟩ : ∃ q, nxS t n p1 = q := ⟨_, rfl⟩
  obtain ⟨p3, e3⟩ : ∃ q, nxS t n p2 = q := ⟨_, rfl⟩
  obtain ⟨p4, e4⟩ : ∃ q, nxS t n p3 = q := ⟨_, rfl⟩
  obtain ⟨p5, e5⟩ : ∃ q, nxS t n p4 = q := ⟨_, rfl⟩
  obtain ⟨p6, e6⟩ : ∃ q, nxS t n p5 = q := ⟨_, rfl⟩
  obtain ⟨v, ev⟩ : ∃ v, vaS t n p2 = v := ⟨_, rfl⟩
  have ep : pCl t n (enW ks cs ls w) cs.length p = if tyS t n p1 = 4 then
      (if tyS t n p2 = 3 then
        (if tyS t n p3 = 5 then
          (match jnO (tyS t n p4) with
          | none => .inl p4
          | some j => match wyO (tyS t n p5) with
            | none => .inl p5
            | some w' => if tyS t n p6 = 7 then
                .inr (nxS t n p6, nmE t n (enW ks cs ls w) p (cs.length = 24) ++ (if v.toInt < 1 ∨ 3 < v.toInt then [(p2, 4)] else []), if cs.length = 24 then none else some (nmS t n p, (if v.toInt < 1 ∨ 3 < v.toInt then 1 else v.toInt.toNat), j, w'))
              else .inl p6)
        else .inl p3)
      else .inl p2)
    else .inl p1 := by
    unfold pCl
    rw [if_pos hty, e1, e2, e3, e4, e5, e6, ev]
    rfl
  rw [e1] at D1
  have l1 : p1 ≤ n := D1.1.pn.1
  -- the Call
  have goA : ∀ (A : Nat) (τ : Sg) (es : Evs), (A = 47 ∧ cs.length = 24) ∨ (A = 2409 + 3 * cs.length ∧ cs.length < 24) → sh0R[A]? = some (Sh.obj 14) → sh0R[A + 1]? = some (Sh.obj 20) → DS t n B σ m0 ks cs ls w m lst cap u τ p1 (E ++ es) → es = nmE t n (enW ks cs ls w) p (cs.length = 24) → B_X23_call_65 Z (d + 1) τ (Int32.ofNat (32 * p + lnS t n p)) A K := by
    intro A τ es hA pA pA1 D hes
    have hf : ∀ a, A ≤ a → a < A + 3 → fre ks.length cs.length ls.length a := fun a a1 a2 => by unfold fre; omega
    have hA9 : 9 ≤ A ∧ A + 2 < 3365 ∧ (A + 2 < 54 ∨ 54 < A) := by omega
    -- the last ;
    have go278 : ∀ (τ : Sg) (es4 : Evs) (pl j : Nat) (s : Option Nat), es4 = (if v.toInt < 1 ∨ 3 < v.toInt then [(p2, 4)] else []) → pl = (if v.toInt < 1 ∨ 3 < v.toInt then 1 else v.toInt.toNat) → 1 ≤ pl ∧ pl ≤ 3 → tyS t n p1 = 4 → tyS t n p2 = 3 → tyS t n p3 = 5 → jnO (tyS t n p4) = some j → wyO (tyS t n p5) = s → DS t n B σ m0 ks cs ls w m lst cap u τ p5 (E ++ es ++ es4) → ClQ τ A (nmS t n p) pl → τ.i A 2 = Int32.ofNat j → B_X23_call_278 Z (d + 1) τ A A (Int32.ofInt (idx s)) K := by
      intro τ es4 pl j s hes4 hpl hpl3 y1 y2 y3 y4 y5 D6 Q6 q2
      have ep2 := ep
      rw [if_pos y1, if_pos y2, if_pos y3, y4] at ep2
      dsimp only at ep2
      rw [y5] at ep2
      have D7 : DS t n B σ m0 ks cs ls w m lst cap u (τ.wi A 3 (Int32.ofInt (idx s))) p5 (E ++ es ++ es4) := D6.w1 (hf A (by omega) (by omega))
      have Q7 : ClQ (τ.wi A 3 (Int32.ofInt (idx s))) A (nmS t n p) pl := ⟨Q6.1.mono (wi_row (by omega)) (wi_row (by omega)), (wi_ne (by omega)).trans Q6.2⟩
      cases s with
      | none =>
        refine S_X23_call_278 D6.1.fx pA pA ⟨fun z => ?_, fun _ => D7.no hZ (by omega) (h0 p5 ep2)⟩
        rw [wi_at] at z
        exact absurd z (by decide)
      | some wy =>
        have wy2 := wy_ge y5
        have hp5 : p5 < n := ty_pos (t := t) wy2.1
        refine S_X23_call_278 D6.1.fx pA pA ⟨fun _ => D7.nx hZ (by omega) hp5 (fun τ8 D8 G8 => ?_), fun z => ?_⟩
        · rw [e6] at D8
          dsimp only at ep2
          refine D8.want (y := 7) (by decide) hZ (by omega) (fun y6 τ9 D9 G9 => ?_) (fun n6 τ9 a wt => h0 p6 (by rw [ep2, if_neg n6]) τ9 a wt)
          rw [if_pos y6] at ep2
          rw [List.append_assoc] at D9
          have hE9 : E ++ (es ++ es4) = E ++ (nmE t n (enW ks cs ls w) p (cs.length = 24) ++ (if v.toInt < 1 ∨ 3 < v.toInt then [(p2, 4)] else [])) := by rw [hes, hes4]
          rw [hE9] at D9
          have e59 := D9.2.1.2.1.1
          have Q9 := (Q7.fr D7 hA9 G8).fr D8 hA9 G9
          have lo9 : τ9.i A = (τ.wi A 3 (Int32.ofInt (idx (some wy)))).i A := by rw [D8.lo G9 (by omega) (by omega) (by omega), D7.lo G8 (by omega) (by omega) (by omega)]
          refine ⟨fun z => ?_, fun z => ?_⟩
          · rw [e59] at z
            have := (oN_le (a := 24) (by omega) (by omega)).mp z
            have h24 : cs.length = 24 := by omega
            rw [if_pos h24] at ep2
            exact h1 _ _ _ ep2 τ9 ⟨D9.1, D9.2.1, TF.refl _ _ _ _ _ _ _ _, rfl⟩ D9.2.2.1 D9.2.2.2
          · rw [e59] at z
            have hlt : cs.length < 24 := Nat.lt_of_not_le fun y => z ((oN_le (a := 24) (by omega) (by omega)).mpr y)
            rw [if_neg (show ¬ cs.length = 24 by omega), ← hpl] at ep2
            have eA : A = 2409 + 3 * cs.length := by omega
            have fi : ∀ a, a ≠ 0 → (τ9.wi 0 5 (τ9.i 0 5 + 1)).i a = τ9.i a := fun a ha => wi_row ha
            have f0 : ∀ k, ¬ (4 ≤ k ∧ k ≤ 7) → (τ9.wi 0 5 (τ9.i 0 5 + 1)).i 0 k = τ9.i 0 k := fun k hk => wi_ne (by omega)
            have ew := D9.2.1.w D9.1.en
            have W4 : W3 ks (cs ++ [(nmS t n p, pl, j, wy)]) ls (τ9.wi 0 5 (τ9.i 0 5 + 1)) := by
              obtain ⟨hk, ⟨c1, c2, c3⟩, hly⟩ := D9.2.1
              refine ⟨⟨(wi_ne (by decide)).trans hk.1, hk.2.1, fun k x q => (hk.2.2 k x q).mono (fun a a1 _ => fi a (by omega))⟩, ⟨?_, ?_, fun k x q => ?_⟩, (wi_ne (by decide)).trans hly.1, hly.2.1, fun k x q => (hly.2.2 k x q).mono (fi _ (by omega)) (fi _ (by omega))⟩
              · rw [wi_at, e59, oN_1, List.length_append]
                rfl
              · rw [List.length_append]
                show cs.length + 1 ≤ 24
                omega
              · by_cases hkl : k < cs.length
                · rw [List.getElem?_append_left hkl] at q
                  exact (c3 k x q).mono (fun a a1 _ => fi a (by omega))
                · rw [List.getElem?_append_right (by omega)] at q
                  have hk0 : k = cs.length := by
                    have := (List.getElem?_eq_some_iff.mp q).1
                    have e1 : List.length [(nmS t n p, pl, j, wy)] = 1 := rfl
                    omega
                  subst hk0
                  rw [Nat.sub_self] at q
                  cases q
                  rw [eA] at Q9 lo9 q2
                  refine ⟨Q9.1.mono (fi _ (by omega)) (fi _ (by omega)), ⟨hpl3.1, hpl3.2, ?_⟩, ⟨(jn_ge y4).2, ?_⟩, (wy_ge y5).2, ?_⟩
                  · rw [fi _ (by omega)]
                    exact Q9.2
                  · rw [fi _ (by omega), lo9, wi_ne (by omega)]
                    exact q2
                  · rw [fi _ (by omega), lo9]
                    exact wi_at _ _ _ _
            have S4 : RX t n (enW ks (cs ++ [(nmS t n p, pl, j, wy)]) ls w) B (τ9.wi 0 5 (τ9.i 0 5 + 1)) (nxS t n p6) (E ++ (nmE t n (enW ks cs ls w) p (cs.length = 24) ++ (if v.toInt < 1 ∨ 3 < v.toInt then [(p2, 4)] else []))) m lst cap u := D9.1.dw rfl rfl (fun a ha => fi a (by omega)) f0 (W4.en (fun q => ⟨(f0 33 (by decide)).trans (ew q).1, (ew q).2.1, by rw [List.length_append]; have := (ew q).2.2; omega⟩))
            refine h1 _ _ _ ep2 _ ⟨S4, W4, TF.refl _ _ _ _ _ _ _ _, rfl⟩ (D9.2.2.1.tr (tf_i (m0 := m0) (τ := τ9.wi 0 5 (τ9.i 0 5 + 1)) rfl rfl rfl (fun a a0 _ => fi a a0) f0) (fun _ z => z) (Nat.le_refl _) (Nat.le_refl _) (Nat.le_refl _) (Nat.le_refl m0)) ((wi_ne (by decide)).trans D9.2.2.2)
        · rw [wi_at] at z
          refine absurd ?_ z
          exact (oN_le (a := 0) (by omega) (by omega)).mpr (Nat.zero_le _)
    -- the way
    have go218 : ∀ (τ : Sg) (es4 : Evs) (pl : Nat) (s : Option Nat), es4 = (if v.toInt < 1 ∨ 3 < v.toInt then [(p2, 4)] else []) → pl = (if v.toInt < 1 ∨ 3 < v.toInt then 1 else v.toInt.toNat) → 1 ≤ pl ∧ pl ≤ 3 → tyS t n p1 = 4 → tyS t n p2 = 3 → tyS t n p3 = 5 → jnO (tyS t n p4) = s → DS t n B σ m0 ks cs ls w m lst cap u τ p4 (E ++ es ++ es4) → ClQ τ A (nmS t n p) pl → B_X23_call_218 Z (d + 1) τ A A (Int32.ofInt (idx s)) K := by
      intro τ es4 pl s hes4 hpl hpl3 y1 y2 y3 y4 D5 Q5
      have D6 : DS t n B σ m0 ks cs ls w m lst cap u (τ.wi A 2 (Int32.ofInt (idx s))) p4 (E ++ es ++ es4) := D5.w1 (hf A (by omega) (by omega))
      have Q6 : ClQ (τ.wi A 2 (Int32.ofInt (idx s))) A (nmS t n p) pl := ⟨Q5.1.mono (wi_row (by omega)) (wi_row (by omega)), (wi_ne (by omega)).trans Q5.2⟩
      cases s with
      | none =>
        refine S_X23_call_218 D5.1.fx pA pA ⟨fun z => ?_, fun _ => D6.no hZ (by omega) (h0 p4 (by rw [ep, if_pos y1, if_pos y2, if_pos y3, y4]))⟩
        rw [wi_at] at z
        exact absurd z (by decide)
      | some j =>
        have jj := jn_ge y4
        have hp4 : p4 < n := ty_pos (t := t) jj.1
        refine S_X23_call_218 D5.1.fx pA pA ⟨fun _ => D6.nx hZ (by omega) hp4 (fun τ7 D7 G7 => ?_), fun z => ?_⟩
        · rw [e5] at D7
          have Q7 := Q6.fr D6 hA9 G7
          have q2 : τ7.i A 2 = Int32.ofNat j := by
            rw [D6.lo G7 (by omega) (by omega) (by omega)]
            exact wi_at _ _ _ _
          have fin : ∀ s, wyO (tyS t n p5) = s → B_X23_call_278 Z (d + 1) τ7 A A (Int32.ofInt (idx s)) K := fun s hs => go278 τ7 es4 pl j s hes4 hpl hpl3 y1 y2 y3 y4 hs D7 Q7 q2
          refine D7.is (y := 39) (by decide) hZ (by omega) (fun y => ⟨fun z => absurd z (by decide), fun _ => fin (some 0) (by rw [y]; rfl)⟩) (fun y39 => ⟨fun _ => ?_, fun z => absurd rfl z⟩)
          refine D7.is (y := 40) (by decide) hZ (by omega) (fun y => ⟨fun z => absurd z (by decide), fun _ => fin (some 1) (by rw [y]; rfl)⟩) (fun y40 => ⟨fun _ => ?_, fun z => absurd rfl z⟩)
          refine D7.is (y := 41) (by decide) hZ (by omega) (fun y => ⟨fun z => absurd z (by decide), fun _ => fin (some 2) (by rw [y]; rfl)⟩) (fun y41 => ⟨fun _ => ?_, fun z => absurd rfl z⟩)
          exact fin none (by unfold wyO; rw [if_neg y39, if_neg y40, if_neg y41])
        · rw [wi_at] at z
          refine absurd ?_ z
          exact (oN_le (a := 0) (by omega) (by omega)).mpr (Nat.zero_le _)
    -- the join
    have go141 : ∀ (τ : Sg) (es4 : Evs) (pl : Nat), es4 = (if v.toInt < 1 ∨ 3 < v.toInt then [(p2, 4)] else []) → pl = (if v.toInt < 1 ∨ 3 < v.toInt then 1 else v.toInt.toNat) → 1 ≤ pl ∧ pl ≤ 3 → tyS t n p1 = 4 → tyS t n p2 = 3 → DS t n B σ m0 ks cs ls w m lst cap u τ p2 (E ++ es ++ es4) → ClQ τ A (nmS t n p) pl → B_X23_call_141 Z (d + 1) τ A K := by
      intro τ es4 pl hes4 hpl hpl3 y1 y2 D3 Q3
      have hp2 : p2 < n := ty_pos (t := t) (by omega)
      refine S_X23_call_141 D3.1.fx pA (D3.nx hZ (by omega) hp2 (fun τ4 D4 G4 => ?_))
      rw [e3] at D4
      refine D4.want (y := 5) (by decide) hZ (by omega) (fun y3 τ5 D5 G5 => ?_) (fun n3 τ5 a wt => h0 p3 (by rw [ep, if_pos y1, if_pos y2, if_neg n3]) τ5 a wt)
      rw [e4] at D5
      have Q5 := (Q3.fr D3 hA9 G4).fr D4 hA9 G5
      have fin : ∀ s, jnO (tyS t n p4) = s → B_X23_call_218 Z (d + 1) τ5 A A (Int32.ofInt (idx s)) K := fun s hs => go218 τ5 es4 pl s hes4 hpl hpl3 y1 y2 y3 hs D5 Q5
      refine D5.is (y := 34) (by decide) hZ (by omega) (fun y => ⟨fun z => absurd z (by decide), fun _ => fin (some 0) (by rw [y]; rfl)⟩) (fun y34 => ⟨fun _ => ?_, fun z => absurd rfl z⟩)
      refine D5.is (y := 35) (by decide) hZ (by omega) (fun y => ⟨fun z => absurd z (by decide), fun _ => fin (some 1) (by rw [y]; rfl)⟩) (fun y35 => ⟨fun _ => ?_, fun z => absurd rfl z⟩)
      refine D5.is (y := 36) (by decide) hZ (by omega) (fun y => ⟨fun z => absurd z (by decide), fun _ => fin (some 2) (by rw [y]; rfl)⟩) (fun y36 => ⟨fun _ => ?_, fun z => absurd rfl z⟩)
      refine D5.is (y := 37) (by decide) hZ (by omega) (fun y => ⟨fun z => absurd z (by decide), fun _ => fin (some 3) (by rw [y]; rfl)⟩) (fun y37 => ⟨fun _ => ?_, fun z => absurd rfl z⟩)
      refine D5.is (y := 38) (by decide) hZ (by omega) (fun y => ⟨fun z => absurd z (by decide), fun _ => fin (some 4) (by rw [y]; rfl)⟩) (fun y38 => ⟨fun _ => ?_, fun z => absurd rfl z⟩)
      exact fin none (by unfold jnO; rw [if_neg y34, if_neg y35, if_neg y36, if_neg y37, if_neg y38])
    -- the places
    refine S_X23_call_65 D.1.fx pA (ds_be (by omega) hb D pA1 (hf _ (by omega) (by omega)) (hf _ (by omega) (by omega)) hq hl (fun τ2 D2 nm2 fr2 => ?_))
    refine D2.want (y := 4) (by decide) hZ (by omega) (fun y1 τ3 D3 G3 => ?_) (fun n1 τ3 a wt => h0 p1 (by rw [ep, if_neg n1]) τ3 a wt)
    rw [e2] at D3
    have nm3 : NmIs τ3 (A + 1) (nmS t n p) := nm2.mono (D2.lo G3 (by omega) (by omega) (by omega)) (D2.lo G3 (by omega) (by omega) (by omega))
    refine ⟨fun z => ?_, fun z => D3.no hZ (by omega) (h0 p2 (by rw [ep, if_pos y1, if_neg (fun y => z ((ty_lo (k := 3) (Or.inr rfl) D3.1.cur).mpr y))]))⟩
    have y2 := (ty_lo (k := 3) (Or.inr rfl) D3.1.cur).mp z
    have hp2 : p2 < n := ty_pos (t := t) (by omega)
    have e19 : τ3.i 0 19 = v := by
      rw [← ev]
      refine D3.1.cur.2.2.2.2.1 hp2 ?_
      rcases ty_or t n p2 with y | y | y | y | y | y
      · omega
      · omega
      · omega
      · exact y.2.2.2
      · exact y.2.2.1
      · rcases y.2.2.2.2 with z | ⟨q, q1, -, q3⟩
        · omega
        · have := (wdL_c q q1).2.1
          omega
    have D4 : DS t n B σ m0 ks cs ls w m lst cap u (τ3.wi A 1 (τ3.i 0 19)) p2 (E ++ es) := D3.w1 (hf A (by omega) (by omega))
    have e19' : (τ3.wi A 1 (τ3.i 0 19)).i 0 19 = v := (wi_ne (by omega)).trans e19
    have c1 : v < 1 ↔ v.toInt < 1 := Int32.lt_iff_toInt_lt
    have c3 : v ≤ 3 ↔ v.toInt ≤ 3 := Int32.le_iff_toInt_le
    rw [e19']
    have nm4 : NmIs (τ3.wi A 1 (τ3.i 0 19)) (A + 1) (nmS t n p) := nm3.mono (wi_row (by omega)) (wi_row (by omega))
    have bad : v.toInt < 1 ∨ 3 < v.toInt → B_X23_call_127 Z (d + 1) (τ3.wi A 1 (τ3.i 0 19)) A K := by
      intro hv
      refine S_X23_call_127 D4.1.fx pA ?_
      rw [D4.1.cur.2.1]
      refine D4.brk (r := 4) (by omega) (by omega) (by decide) (fun τ5 D5 G5 => ?_)
      refine go141 _ [(p2, 4)] 1 (by rw [if_pos hv]) (by rw [if_pos hv]) (by decide) y1 y2 (D5.w1 (hf A (by omega) (by omega))) ⟨NmIs.mono (σ := τ3.wi A 1 (τ3.i 0 19)) nm4 ?_ ?_, wi_at _ _ _ _⟩
      · rw [wi_row (by omega), D4.lo G5 (by omega) (by omega) (by omega)]
      · rw [wi_row (by omega), D4.lo G5 (by omega) (by omega) (by omega)]
    refine ⟨fun y => bad (Or.inl (c1.mp y)), fun y => ⟨fun x => ?_, fun x => bad (Or.inr ?_)⟩⟩
    · have g1 : ¬ v.toInt < 1 := fun q => y (c1.mpr q)
      have g3 := c3.mp x
      have hv : ¬ (v.toInt < 1 ∨ 3 < v.toInt) := by omega
      refine go141 _ [] v.toInt.toNat (by rw [if_neg hv]) (by rw [if_neg hv]) (by omega) y1 y2 (by rw [List.append_nil]; exact D4) ⟨nm4, ?_⟩
      rw [wi_at, e19]
      exact i_oN (by omega)
    · exact Classical.byContradiction fun q => x (c3.mpr (by omega))
  have go40 : ∀ τ es, DS t n B σ m0 ks cs ls w m lst cap u τ p1 (E ++ es) → es = nmE t n (enW ks cs ls w) p (cs.length = 24) → B_X23_call_40 Z (d + 1) τ (Int32.ofNat (32 * p + lnS t n p)) K := by
    intro τ es D hes
    have e5 := D.2.1.2.1.1
    refine S_X23_call_40 D.1.fx ⟨fun z => ?_, fun z => ?_⟩
    · rw [e5] at z
      have := (oN_le (a := 24) (by omega) (by omega)).mp z
      exact goA 47 τ es (Or.inl ⟨rfl, by omega⟩) (by decide +kernel) (by decide +kernel) D hes
    · rw [e5] at z
      have hlt : cs.length < 24 := Nat.lt_of_not_le fun y => z ((oN_le (a := 24) (by omega) (by omega)).mpr y)
      rw [e5, oN_t (by omega)]
      exact ⟨ib_oN hlt (by decide), goA _ τ es (Or.inr ⟨rfl, hlt⟩) (kE_2 hlt) (kF_14_1 (kE_2 hlt)) D hes⟩
  have go24 : ∀ τ es, DS t n B σ m0 ks cs ls w m lst cap u τ p1 (E ++ es) → es = (if toE (enW ks cs ls w) (nmS t n p) = true then [(p, 2)] else []) → B_X23_call_24 Z (d + 1) τ (Int32.ofNat p) (Int32.ofNat (32 * p + lnS t n p)) K := by
    intro τ es D hes
    have e7 := D.2.1.2.1.1
    refine S_X23_call_24 D.1.fx ⟨fun z => go40 τ es D ?_, fun z => D.brk (r := 7) (by omega) (by omega) (by decide) (fun τ2 D2 G2 => go40 τ2 (es ++ [(p, 7)]) (by rw [← List.append_assoc]; exact D2) ?_)⟩
    · rw [nmE_n (fun y => z (by rw [e7, y]; rfl))]
      exact hes
    · rw [nmE_y ((oN_eq (b := 24) (by omega) (by omega)).mp (e7.symm.trans z)), hes]
  refine rx_told (by omega) S1 hq hl (fun ht => ⟨fun z => absurd z (by decide), fun _ => D1.brk (r := 2) (by omega) (by omega) (by decide) (fun τ2 D2 G2 => go24 τ2 [(p, 2)] D2 ?_)⟩) (fun ht => ⟨fun _ => go24 τ1 [] (by rw [List.append_nil]; exact D1) ?_, fun z => absurd rfl z⟩)
  · rw [if_pos (show toE (enW ks cs ls w) (nmS t n p) = true from ht)]
  · rw [if_neg (show ¬ toE (enW ks cs ls w) (nmS t n p) = true from ht)]
end CALLD

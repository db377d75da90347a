/-! THE REFERENCE: tell() -/
theorem sp_kd {t : Nat → Int32} {n : Nat} {env : Env} {pl kn : Nat} (hE : ∀ nm k, env.1 nm = some k → k < kn) (h1 : 1 ≤ kn) : ∀ f p k vs es acc p' V es' acc', pSp t n env pl f p k vs es acc = .inr (p', V, es', acc') → es' = [] → (∀ s ∈ acc, 0 ≤ s.1 ∧ s.1 < kn) → ∀ s ∈ acc', 0 ≤ s.1 ∧ s.1 < kn
  | 0, p, k, vs, es, acc, p', V, es', acc', h, _, _ => by cases h
  | f + 1, p, k, vs, es, acc, p', V, es', acc', h, he, ha => by
    rw [pSp] at h
    split at h
    · split at h
      · cases h
      · rename_i p1 es1 kd hk
        have hkd : es1 = [] → 0 ≤ kd ∧ kd < kn := by
          intro hes
          unfold pSk at hk
          split at hk
          · split at hk
            · cases hk
              cases hx : env.1 (nmS t n (nxS t n (nxS t n p))) with
              | none =>
                rw [hx] at hes
                cases hes
              | some k' =>
                have := hE _ _ hx
                show (0 : Int) ≤ (k' : Int) ∧ (k' : Int) < kn
                omega
            · cases hk
          · cases hk
            omega
        split at h
        · cases h
        · rename_i p2 hs v hq
          have hacc : es1 = [] → ∀ s ∈ (if k < 3 then acc ++ [(kd, hs, v)] else acc), 0 ≤ s.1 ∧ s.1 < kn := by
            intro hes s hm
            split at hm
            · rcases List.mem_append.mp hm with z | z
              · exact ha s z
              · rw [List.mem_singleton] at z
                rw [z]
                exact hkd hes
            · exact ha s hm
          split at h
          · obtain ⟨x, hx⟩ := sp_ext _ _ _ _ _ _ _ _ _ _ h
            have hes : es1 = [] := by
              rw [hx] at he
              exact (List.append_eq_nil_iff.mp (List.append_eq_nil_iff.mp he).1).2
            exact sp_kd hE h1 f _ _ _ _ _ _ _ _ _ h he (hacc hes)
          · split at h
            · cases h
              have hes : es1 = [] := (List.append_eq_nil_iff.mp (List.append_eq_nil_iff.mp he).1).2
              exact hacc hes
            · cases h
    · cases h
theorem mt_kd {t : Nat → Int32} {n : Nat} {env : Env} {mn p p' kn : Nat} {D : Mtd} (hE : ∀ nm k, env.1 nm = some k → k < kn) (h1 : 1 ≤ kn) (h : pMt t n env mn p = .inr (p', [], D)) : ∀ s ∈ D.2.2.2.1, 0 ≤ s.1 ∧ s.1 < kn := by
  unfold pMt at h
  split at h
  · split at h
    · split at h
      · cases h
      · rename_i p3 V es3 acc hs
        split at h
        · cases h
        · split at h
          · cases h
          · split at h
            · split at h
              · cases h
              · split at h
                · have e0 := (Prod.mk.inj (Sum.inr.inj h)).2
                  have e1 := (Prod.mk.inj e0).1
                  have e2 := (Prod.mk.inj e0).2
                  have h3' : es3 = [] := (List.append_eq_nil_iff.mp (List.append_eq_nil_iff.mp (List.append_eq_nil_iff.mp e1).1).1).1
                  rw [← e2]
                  exact sp_kd hE h1 _ _ _ _ _ _ _ _ _ _ hs h3' (fun s hs => by cases hs)
                · cases h
            · cases h
    · cases h
  · cases h
theorem de_wfs {t : Nat → Int32} {n p p' : Nat} {W W' : Wld} (h : pDe t n W p = .inr (p', [], W')) (h1 : 1 ≤ W.1.length) (hW : WfS W.1 W.2.2.2) : 1 ≤ W'.1.length ∧ WfS W'.1 W'.2.2.2 := by
  have ext : ∀ (o : Option Knd), 1 ≤ (adO W.1 o).length ∧ WfS (adO W.1 o) W.2.2.2 := by
    intro o
    cases o with
    | none => exact ⟨h1, hW⟩
    | some x =>
      have e : (adO W.1 (some x)).length = W.1.length + 1 := by
        show (W.1 ++ [x]).length = _
        rw [List.length_append]
        rfl
      refine ⟨by omega, fun y hy s hs => ?_⟩
      have := hW y hy s hs
      omega
  unfold pDe at h
  split at h
  · split at h
    · cases h
    · cases h
      exact ext _
  · split at h
    · split at h
      · cases h
      · cases h
        exact ⟨h1, hW⟩
    · split at h
      · split at h
        · cases h
        · cases h
          exact ⟨h1, hW⟩
      · split at h
        · split at h
          · cases h
          · rename_i p2 es D hm
            have e0 := (Prod.mk.inj (Sum.inr.inj h)).2
            have e1 := (Prod.mk.inj e0).1
            have e2 := (Prod.mk.inj e0).2
            have he : es = [] := (List.append_eq_nil_iff.mp e1).1
            subst he
            have hk := mt_kd (kn := W.1.length) (fun nm k hk => by
              have := fi_lt hk
              rw [List.length_map] at this
              exact this) h1 hm
            rw [← e2]
            refine ⟨h1, ?_⟩
            show WfS W.1 (if W.2.2.2.length < 120 then W.2.2.2 ++ [(D, false)] else W.2.2.2)
            split
            · intro y hy s hs
              rcases List.mem_append.mp hy with z | z
              · exact hW y z s hs
              · rw [List.mem_singleton] at z
                rw [z] at hs
                exact hk s hs
            · exact hW
        · cases h
theorem tx_wfs {t : Nat → Int32} {n : Nat} : ∀ f (W W' : Wld) p p', pTx t n f W p = .inr (p', [], W') → 1 ≤ W.1.length → WfS W.1 W.2.2.2 → 1 ≤ W'.1.length ∧ WfS W'.1 W'.2.2.2
  | 0, W, W', p, p', h, _, _ => by cases h
  | f + 1, W, W', p, p', h, h1, hW => by
    rw [pTx] at h
    split at h
    · cases h
    · rename_i p2 es W2 hde
      split at h
      · cases h
        exact de_wfs hde h1 hW
      · split at h
        · cases h
        · rename_i p3 es3 W3 hx
          have e0 := (Prod.mk.inj (Sum.inr.inj h)).2
          have e1 := (Prod.mk.inj e0).1
          have e2 := (Prod.mk.inj e0).2
          by_cases he : es = []
          · subst he
            rw [if_pos rfl] at e1
            subst e1
            obtain ⟨g1, g2⟩ := de_wfs hde h1 hW
            have := tx_wfs f W2 W3 _ _ hx g1 g2
            rw [← e2]
            exact this
          · rw [if_neg he] at e1
            exact absurd e1 he
/-- what a text comes to: the place of what is wrong (or -1), why, and the world behind it -/
def tlR (t : Nat → Int32) (n : Nat) (W : Wld) : Int × Nat × Wld := match pTx t n (n + 1 - fiS t n) W (fiS t n) with
  | .inl q => (q, 1, W)
  | .inr (_, es, W') => match lsE es with
    | none => (-1, 0, W')
    | some w => (w.1, w.2, W)
section TELL
variable {Z : zT} {d : Nat} {W : Wld} {pg : Ast} {t : Nat → Int32} {n m : Nat} {lst : List Nat} {cap m7 : Nat} {lst7 : List Nat} {cap7 : Nat} {σ : Sg} {K : kS}
theorem bS_c {Φ : Fix} {G : ab_G} {T : ab_GT} {M : ab_MX} {pc hp q : Nat} {lv : ab_L} {E : String} {σ : Sg} (e : ab_hd T (ab_mo M.1) E pc M.2 = some (some hp)) (h : ab_fin G T (d + 1) M hp lv [.ref q] (conc σ) (lf Φ K)) : bS Φ G T d M pc lv K (.inr (E, q)) σ := by
  unfold bS
  dsimp only
  rw [e]
  exact h
theorem bS_p {Φ : Fix} {G : ab_G} {T : ab_GT} {M : ab_MX} {pc q : Nat} {lv : ab_L} {E : String} {σ : Sg} (e : ab_hd T (ab_mo M.1) E pc M.2 = some none) (h : K (.inr (E, q)) σ) : bS Φ G T d M pc lv K (.inr (E, q)) σ := by
  unfold bS
  dsimp only
  rw [e]
  exact h
theorem tell_catch {σ : Sg} {l1 l2 l3 l4 l5 : Int32} {q : Nat} (w : B_X23_tell_65 Z (d + 1) σ l1 l2 l3 l4 l5 q K) : bS ΦR (hb_Gz Z.1 (some Z.2)) hb_GT d (mX23_tell, [(35, 62, 65, 223)]) 36 [(5, .int l5), (4, .int l4), (3, .int l3), (2, .int l2), (1, .int l1), (0, .ref 0)] K (.inr ("DispatchHouseModel$Wrong", q)) σ := by
  refine bS_c (hp := 65) (by decide +kernel) (ab_fin.lv ⟨?_, by show ([5, 4, 3, 2, 1, 0] : List Nat).Nodup; decide⟩ w)
  intro x hx
  simp only [List.mem_cons, List.not_mem_nil, or_false] at hx ⊢
  rcases hx with rfl | rfl | rfl | rfl | rfl | rfl <;> simp
theorem RefR.w0 (R : RefR W pg t n m lst cap m7 lst7 cap7 σ) {k : Nat} {v : Int32} (hk : ¬ (4 ≤ k ∧ k ≤ 7) ∧ k ≠ 15 ∧ k ≠ 41) : RefR W pg t n m lst cap m7 lst7 cap7 (σ.wi 0 k v) := by
  obtain ⟨r1, r2, r3, r4, r5, ⟨⟨t1, t2, t3, t4⟩, t5⟩, ⟨n1, n2⟩, ⟨q1, q2⟩, r9, r10⟩ := R
  have hkk := r2.1.2.1
  have hcc := r2.2.1.2.1
  have ei : ∀ a, a ≠ 0 → (σ.wi 0 k v).i a = σ.i a := fun a ha => wi_row ha
  have e0 : ∀ j, j ≠ k → (σ.wi 0 k v).i 0 j = σ.i 0 j := fun j hj => wi_ne (by omega)
  refine ⟨r1, r2.keep (fun a ha => ei a (by omega)) (e0 4 (by omega)) (e0 5 (by omega)) (e0 7 (by omega)), ⟨(e0 6 (by omega)).trans r3.1, r3.2⟩, fun j x hx => (r4 j x hx).mono (fun _ _ z => z) (fun a a1 a2 => ei a (by omega)) rfl (fun y hy hys => ⟨hy, hys, ei y ?_, rfl, rfl⟩), r5.mono hkk.2 hcc (fun a a1 a2 _ => ⟨ei a (by omega), rfl⟩) (e0 41 (by omega)), ⟨⟨t1, (e0 15 (by omega)).trans t2, fun j hj => by rw [ei 37 (by decide)]; exact t3 j hj, t4⟩, t5⟩, ⟨n1.mono (fun _ _ z => z) (by rw [ei 6 (by decide)]) rfl (fun _ _ => rfl), by rw [ei 5 (by decide)]; exact n2.1, n2.2⟩, ⟨q1.mono (fun _ _ z => z) (by rw [ei 8 (by decide)]) rfl (fun _ _ => rfl), by rw [ei 7 (by decide)]; exact q2.1, q2.2⟩, r9, TrN.mono (σ := σ) (τ := σ.wi 0 k v) (fun y hy hys => ⟨hy, hys, ei y ?_, rfl, rfl⟩) _ _ r10⟩
  · have := nd_ge r1 hys
    omega
  · have := nd_ge r1 hys
    omega
theorem szS_obj : szS [Sh.obj 23] ≤ 7 := by decide +kernel
/-- tell() -/
theorem rf_tell (hZ : ZK Z) (hd : 80 ≤ d) (R : RefR W pg t n m lst cap m7 lst7 cap7 σ) (hS : WfS W.1 W.2.2.2) (hu : m + 2 * n + 2 ≤ 23000)
    (h : ∀ τ m' lst' cap', RefR (tlR t n W).2.2 pg t 0 m' lst' cap' m7 lst7 cap7 τ → WfS (tlR t n W).2.2.1 (tlR t n W).2.2.2.2.2 → m' ≤ m + 2 * n → lst.length ≤ lst'.length → RmW σ.sh τ.sh (lst'.length - lst.length) cap cap' → τ.i 0 112 = Int32.ofNat (tlR t n W).2.1 → τ.i 0 110 = 0 → ((tlR t n W).1 ≠ -1 → KpR σ τ) → ((tlR t n W).1 = -1 → ∃ υ, KpR σ υ ∧ FrRb υ τ ∧ (∀ c, c < (tlR t n W).2.2.2.1.length → τ.i 1931 c = -1) ∧ ∀ k, k < 8192 → τ.i 2069 k = -1) → K (.inl (some (.int (Int32.ofInt (tlR t n W).1)))) τ) : B_X23_tell_0 Z d σ K := by
  obtain ⟨d, rfl⟩ : ∃ e, d = e + 2 := ⟨d - 2, by omega⟩
  have R1 := R.w0 (k := 110) (v := 0) (by decide)
  obtain ⟨σ1, hσ1⟩ : ∃ x, x = σ.wi 0 110 (0 : Int32) := ⟨_, rfl⟩
  refine S_X23_tell_0 R.fx ?_
  rw [← hσ1] at R1 ⊢
  have ei1 : ∀ a, a ≠ 0 → σ1.i a = σ.i a := fun a ha => by rw [hσ1]; exact wi_row ha
  have e01 : ∀ k, k ≠ 110 → σ1.i 0 k = σ.i 0 k := fun k hk => by rw [hσ1]; exact wi_ne (by omega)
  have e110 : σ1.i 0 110 = 0 := by rw [hσ1]; exact wi_at _ _ _ _
  have er1 : σ1.sh = σ.sh ∧ σ1.l = σ.l ∧ σ1.r = σ.r := by rw [hσ1]; exact ⟨rfl, rfl, rfl⟩
  have kp1 : ∀ {υ : Sg}, KpR σ1 υ → KpR σ υ := fun {υ} hk => ⟨fun a a1 a2 a3 a4 a5 => by
      have := hk.1 a a1 a2 a3 a4 a5
      rw [ei1 a (by omega), er1.2.1, er1.2.2] at this
      exact this, fun k k1 k2 k3 k4 k5 k6 => (hk.2.1 k k1 k2 k3 k4 k5 k6).trans (e01 k k4), by rw [hk.2.2.1, er1.2.1], fun k k1 k2 => by rw [hk.2.2.2 k k1 k2, er1.2.2]⟩
  have hsh := sh_ge R1.fx
  have hk24 := R1.w3.1.2.1
  have hc24 := R1.w3.2.1.2.1
  have hl8 := R1.w3.2.2.2.1
  obtain ⟨L5, n1, n2, n3, n4⟩ := R1.n5
  refine S_X23_readText_0 R1.fx (rf_start hZ (by omega) R1.fx R1.tx.1 (fun τ F1 G1 C1 e20 e23 e24 => ?_))
  -- behind start()
  have gi : ∀ a, a ≠ 0 → τ.i a = σ1.i a := fun a ha => funext fun k => G1.2.2.1 a k (fun q => ha q.1)
  have g0 : ∀ k, ¬ (k = 16 ∨ k = 17 ∨ k = 18 ∨ k = 19 ∨ k = 20 ∨ k = 23 ∨ k = 24 ∨ k = 26) → τ.i 0 k = σ1.i 0 k := fun k hk => G1.2.2.1 0 k (fun q => hk q.2)
  have gr : ∀ a, a ≠ 0 → τ.r a = σ1.r a := fun a ha => funext fun k => G1.2.2.2 a k (fun q => ha q.1)
  have W1 : W3 W.1 W.2.1 W.2.2.1 τ := R1.w3.keep (fun a ha => gi a (by omega)) (g0 4 (by decide)) (g0 5 (by decide)) (g0 7 (by decide))
  obtain ⟨t1, t2, t3, t4⟩ := R1.tx.1
  have hp0 := fi_le t n
  have X1 : RX t n (enW W.1 W.2.1 W.2.2.1 999) (σ1.i 0 27, σ1.i 0 22, σ1.r 0 34) τ (fiS t n) [] m lst cap (m + 2 * n) := by
    refine ⟨F1, ⟨t1, (g0 15 (by decide)).trans t2, fun k hk => by rw [gi 37 (by decide)]; exact t3 k hk, t4⟩, C1, W1.en (fun q => absurd rfl q), e20, ⟨⟨fun e he => (by cases he), ?_, e23, e24⟩, g0 22 (by decide)⟩, G1.2.2.2 0 34 (by decide), L5.mono (fun a s q => by rw [G1.1]; exact q) (by rw [gi 6 (by decide)]) (by rw [gr 6 (by decide)]) (fun b hb => gr b (fun z => ?_)), by rw [gi 5 (by decide)]; exact n1, n2, n3, n4, by omega, by omega⟩
    · show τ.i 0 27 = σ1.i 0 27 + Int32.ofNat 0
      rw [g0 27 (by decide)]
      exact (Int32.add_zero _).symm
    · have := oa_ge R1.fx (L5.arr hb)
      omega
  have T0 : TF W.1.length W.2.1.length W.2.2.1.length W.2.2.2.length σ1 τ lst cap lst cap (fun i => m ≤ i) := by
    refine ⟨⟨[], (List.append_nil _).symm, fun v hv => (by cases hv), by rw [G1.1]; exact RmL.refl _ _⟩, fun a _ h1 _ => ⟨gi a (fun z => h1 (Or.inl z)), by rw [G1.2.1], fun _ => gr a (fun z => h1 (Or.inl z))⟩, fun k hk _ _ => g0 k (fun q => hk (by unfold rdK; omega)), by rw [G1.2.1], fun k k1 _ => G1.2.2.2 0 k (fun q => k1 q.2), Or.inl (by rw [gr 6 (by decide)])⟩
  have e6τ : τ.i 0 6 = Int32.ofNat W.2.2.2.length := (g0 6 (by decide)).trans R1.mn.1
  have T1 : TxS t n (σ1.i 0 27) σ1 lst cap m W.1.length W.2.1.length W.2.2.1.length W.2.2.2.length (m + 2 * n) τ (fiS t n) [] W.1 W.2.1 W.2.2.1 W.2.2.2.length m lst cap := ⟨999, _, _, X1, W1, ⟨e6τ, R1.mn.2⟩, T0, Nat.le_refl _, Nat.le_refl _, Nat.le_refl _, Nat.le_refl _, Nat.le_refl _⟩
  have M1 : MsL W.2.2.2 W.2.1 τ lst m := R1.ms.tg R1.fx L5 T0.tg (Nat.le_refl _) R1.mn.2 (fun i hi z => by omega)
  have rmw : ∀ {υ : Sg} {lst' : List Nat} {cap' : Nat}, TF W.1.length W.2.1.length W.2.2.1.length W.2.2.2.length σ1 υ lst cap lst' cap' (fun i => m ≤ i) → RmW σ.sh υ.sh (lst'.length - lst.length) cap cap' := by
    rintro υ lst' cap' ⟨⟨more, q1, -, ext, q2, q3, q4⟩, -⟩
    have : lst'.length - lst.length = more.length := by
      rw [q1, List.length_append]
      omega
    rw [this]
    exact ⟨ext, by rw [q2, er1.1], by omega, by omega⟩
  -- the counts set back
  have fin : ∀ (υ τ' : Sg) (lst' : List Nat) (cap' : Nat) (q : Nat) (r : Nat), q ≤ 8192 → tlR t n W = ((q : Int), r, W) → TG W.1.length W.2.1.length W.2.2.1.length W.2.2.2.length σ1 υ lst lst' (fun i => m ≤ i) → FX ΦR υ.sh υ.r → LsS υ 6 lst' cap' → lst'.length ≤ 23400 ∧ cap' ≤ 2 * lst'.length + 10 → RmW σ.sh υ.sh (lst'.length - lst.length) cap cap' → B_X23_tell_79 Z (d + 1 + 1) (υ.wi 0 112 (Int32.ofNat r)) (σ.i 0 4) (σ.i 0 5) (σ.i 0 6) (σ.i 0 7) (σ.i 5 1) (Int32.ofNat q) K := by
    intro υ τ' lst' cap' q r hq htl G Fυ Lυ hb hrm
    have c : ¬ Int32.ofNat q < 0 := fun z => by
      have := (oN_lt (b := 0) (by omega) (by omega)).mp z
      omega
    refine S_X23_tell_79 Fυ ⟨fun z => absurd z c, fun _ => ?_⟩
    obtain ⟨ω, hω⟩ : ∃ x, x = ((((((υ.wi 0 112 (Int32.ofNat r)).wi 0 15 (0 : Int32)).wi 0 4 (σ.i 0 4)).wi 0 5 (σ.i 0 5)).wi 0 6 (σ.i 0 6)).wi 0 7 (σ.i 0 7)).wi 5 1 (σ.i 5 1) := ⟨_, rfl⟩
    rw [← hω]
    have w5 : ω.i 5 1 = Int32.ofNat m := by
      rw [hω, wi_at, ← ei1 5 (by decide)]
      exact n1
    have w7 : ω.i 0 7 = σ1.i 0 7 := by
      rw [hω, wi_ne (by decide), wi_at, e01 7 (by decide)]
    have w6 : ω.i 0 6 = σ1.i 0 6 := by
      rw [hω, wi_ne (by decide), wi_ne (by decide), wi_at, e01 6 (by decide)]
    have w5' : ω.i 0 5 = σ1.i 0 5 := by
      rw [hω, wi_ne (by decide), wi_ne (by decide), wi_ne (by decide), wi_at, e01 5 (by decide)]
    have w4 : ω.i 0 4 = σ1.i 0 4 := by
      rw [hω, wi_ne (by decide), wi_ne (by decide), wi_ne (by decide), wi_ne (by decide), wi_at, e01 4 (by decide)]
    have w15 : ω.i 0 15 = 0 := by
      rw [hω, wi_ne (by decide), wi_ne (by decide), wi_ne (by decide), wi_ne (by decide), wi_ne (by decide), wi_at]
    have w112 : ω.i 0 112 = Int32.ofNat r := by
      rw [hω, wi_ne (by decide), wi_ne (by decide), wi_ne (by decide), wi_ne (by decide), wi_ne (by decide), wi_ne (by decide), wi_at]
    have w0 : ∀ k, k ≠ 15 → k ≠ 112 → ¬ (4 ≤ k ∧ k ≤ 7) → ω.i 0 k = υ.i 0 k := fun k k1 k2 k3 => by
      rw [hω, wi_ne (by omega), wi_ne (by omega), wi_ne (by omega), wi_ne (by omega), wi_ne (by omega), wi_ne (by omega), wi_ne (by omega)]
    have wa : ∀ a, a ≠ 0 → a ≠ 5 → ω.i a = υ.i a := fun a a1 a2 => by
      rw [hω, wi_row (by omega), wi_row (by omega), wi_row (by omega), wi_row (by omega), wi_row (by omega), wi_row (by omega), wi_row (by omega)]
    have ws : ω.sh = υ.sh ∧ ω.l = υ.l ∧ ω.r = υ.r := by
      rw [hω]
      exact ⟨rfl, rfl, rfl⟩
    obtain ⟨R2, K2⟩ := R1.back G Fυ Lυ hb ws.1 ws.2.1 ws.2.2 wa w5 w4 w5' w6 w7 w15 w0
    rw [htl] at h
    refine h ω m lst' cap' R2 hS (by omega) (by obtain ⟨more, e, -⟩ := G.2.1; rw [e, List.length_append]; omega) (by rw [ws.1]; exact hrm) w112 ?_ (fun _ => kp1 K2) (fun z => ?_)
    · rw [w0 110 (by decide) (by decide) (by decide), G.2.2.2.1 110 (by decide) (by decide) (by decide)]
      exact e110
    · exfalso
      dsimp only at z
      omega
  have wS : ∀ W2 : Wld, (∃ p', pTx t n (n + 1 - fiS t n) (W.1, W.2.1, W.2.2.1, W.2.2.2) (fiS t n) = .inr (p', [], W2)) → WfS W2.1 W2.2.2.2 := fun W2 ⟨p', hp⟩ => (tx_wfs _ _ _ _ _ hp hk24.1 hS).2
  have e79 : ∀ {υ : Sg}, σ.i 5 1 = σ.i 5 1 := fun {υ} => rfl
  refine tx_clean hZ (by omega) R1.tx.2 (by omega) (n + 1 - fiS t n) τ (fiS t n) W.1 W.2.1 W.2.2.1 W.2.2.2 m lst cap (by omega) T1 M1 (fun p' W' hp υ m' lst' cap' T2 M2 => ?_) (fun p' es W' w0 hp hls υ E' ks' cs' ls' mn' m' lst' cap' T2 hls2 => ?_) (fun q hp υ a wt => ?_)
  · -- all is well
    have htl : tlR t n W = (-1, 0, W') := by
      unfold tlR
      rw [show pTx t n (n + 1 - fiS t n) W (fiS t n) = .inr (p', [], W') from hp]
      rfl
    obtain ⟨w, x, r, S2, H2, ⟨e62, h62⟩, G2, g1, g2, g3, g4, g5⟩ := T2
    have h23 := S2.rl.2.2.1
    have h24 := S2.rl.2.2.2
    refine ⟨fun z => ?_, fun _ => ?_⟩
    · rw [h23] at z
      exact absurd z (by decide)
    · rw [h23]
      refine S_X23_tell_59 S2.fx (S_X23_tell_79 S2.fx ⟨fun _ => ?_, fun z => absurd (by decide) z⟩)
      obtain ⟨ω, hω⟩ : ∃ y, y = (υ.wi 0 112 (0 : Int32)).wi 0 15 (0 : Int32) := ⟨_, rfl⟩
      rw [← hω]
      have wa : ∀ a, a ≠ 0 → ω.i a = υ.i a := fun a ha => by
        rw [hω, wi_row ha, wi_row ha]
      have w0 : ∀ k, k ≠ 15 → k ≠ 112 → ω.i 0 k = υ.i 0 k := fun k k1 k2 => by
        rw [hω, wi_ne (by omega), wi_ne (by omega)]
      have w15 : ω.i 0 15 = 0 := by
        rw [hω, wi_at]
      have w112 : ω.i 0 112 = 0 := by
        rw [hω, wi_ne (by decide), wi_at]
      have ws : ω.sh = υ.sh ∧ ω.l = υ.l ∧ ω.r = υ.r := by
        rw [hω]
        exact ⟨rfl, rfl, rfl⟩
      have Fω : FX ΦR ω.sh ω.r := by
        rw [ws.1, ws.2.2]
        exact S2.fx
      have hk2 := H2.1.2.1
      have hc2 := H2.2.1.2.1
      have hl2 := H2.2.2.2.1
      have H3 : W3 W'.1 W'.2.1 W'.2.2.1 ω := H2.keep (fun a ha => wa a (by omega)) (w0 4 (by decide) (by decide)) (w0 5 (by decide) (by decide)) (w0 7 (by decide) (by decide))
      have M3 : MsL W'.2.2.2 W'.2.1 ω lst' m' := fun j x hx => (M2 j x hx).mono (fun _ _ z => z) (fun a a1 a2 => wa a (by omega)) (by rw [ws.2.2]) (fun y hy hys => ⟨hy, by rw [ws.1]; exact hys, wa y (by have := nd_ge S2.fx hys; omega), by rw [ws.2.1], by rw [ws.2.2]⟩)
      have hS2 := wS W' ⟨p', hp⟩
      refine rf_rebuild (by omega) Fω H3 ((w0 6 (by decide) (by decide)).trans e62) h62 M3 hS2 (fun ψ F5 G5 R5 o5 f5 => ?_)
      obtain ⟨q1, q2, q3, q4⟩ := G5
      obtain ⟨s1, s2, s3⟩ := R1.side G2.tg
      obtain ⟨b1, b2, b3, b4, b5⟩ := S2.bd
      have pi : ∀ a, ¬ (1881 ≤ a ∧ a < 1905) → ¬ (1930 ≤ a ∧ a ≤ 1932) → a ≠ 2069 → a ≠ 0 → ψ.i a = υ.i a := fun a a1 a2 a3 a4 => by
        rw [← wa a a4]
        exact funext fun k => q3 a k a1 a2 a3 (fun z => a4 z.1)
      have p0 : ∀ k, k ≠ 41 → ψ.i 0 k = ω.i 0 k := fun k hk => q3 0 k (by omega) (by omega) (by decide) (fun z => hk z.2)
      have pr : ψ.r = υ.r := q2.trans ws.2.2
      have ps : ψ.sh = υ.sh := q1.trans ws.1
      have pl : ∀ a, ¬ (55 ≤ a ∧ a < 2121) → ψ.l a = υ.l a := fun a ha => by
        rw [q4 a ha, ws.2.1]
      have KP : KpR σ1 ω := by
        refine ⟨fun a a1 a2 a3 a4 a5 => ?_, fun k k1 k2 k3 k4 k5 k6 => ?_, ?_, fun k k1 k2 => ?_⟩
        · obtain ⟨y1, y2, y3⟩ := G2.2.1 a (by omega) (by unfold txA; omega) (fun i hi => by
            have := nd_ge R1.fx (L5.2.2.2.1 a (List.mem_of_getElem? hi))
            omega)
          rw [wa a (by omega), ws.2.1, ws.2.2]
          refine ⟨y1, y2, y3 fun z => ?_⟩
          have := oa_ge R1.fx (L5.arr z)
          omega
        · rw [w0 k k3 k5]
          exact G2.2.2.1 k k1 k2 k6
        · rw [ws.2.1]
          exact G2.2.2.2.1
        · rw [ws.2.2]
          exact G2.2.2.2.2.1 k k1 k2
      have nd3 : ∀ y, υ.sh[y]? = some (Sh.obj 21) → ψ.sh[y]? = some (Sh.obj 21) ∧ ψ.i y = υ.i y ∧ ψ.l y = υ.l y ∧ ψ.r y = υ.r y := fun y hy => by
        have := nd_ge S2.fx hy
        exact ⟨by rw [ps]; exact hy, pi y (by omega) (by omega) (by omega) (by omega), pl y (by omega), by rw [pr]⟩
      rw [htl] at h
      refine h ψ m' lst' cap' ⟨F5, H3.keep (fun a ha => (pi a (by omega) (by omega) (by omega) (by omega)).trans (wa a (by omega)).symm) (p0 4 (by decide)) (p0 5 (by decide)) (p0 7 (by decide)), ⟨(p0 6 (by decide)).trans ((w0 6 (by decide) (by decide)).trans e62), h62⟩, fun j x hx => (M2 j x hx).mono (fun _ _ z => z) (fun a a1 a2 => pi a (by omega) (by omega) (by omega) (by omega)) (by rw [pr]) (fun y hy hys => ⟨hy, nd3 y hys⟩), R5, ⟨⟨by decide, (p0 15 (by decide)).trans w15, fun k hk => ?_, t4⟩, R1.tx.2⟩, ⟨S2.ls.mono (fun a s q => by rw [ps]; exact q) (by rw [pi 6 (by omega) (by omega) (by omega) (by omega)]) (by rw [pr]) (fun b _ => by rw [pr]), by rw [pi 5 (by omega) (by omega) (by omega) (by omega)]; exact S2.nm, b1, b2, b3⟩, ⟨s1.1.mono (fun a s q => by rw [ps]; exact q) (by rw [pi 8 (by omega) (by omega) (by omega) (by omega)]) (by rw [pr]) (fun b _ => by rw [pr]), by rw [pi 7 (by omega) (by omega) (by omega) (by omega)]; exact s1.2.1, s1.2.2⟩, ⟨s2.1, by rw [pr]; exact s2.2⟩, by rw [pr]; exact TrN.mono (fun y hy hys => ⟨hy, nd3 y hys⟩) _ _ s3⟩ hS2 (by omega) (by obtain ⟨⟨more, e, -⟩, -⟩ := G2; rw [e, List.length_append]; omega) (by rw [ps]; exact rmw G2) ((p0 112 (by decide)).trans w112) ?_ (fun z => absurd rfl z) (fun _ => ⟨ω, kp1 KP, ⟨q1, q2, q3, q4⟩, o5, f5⟩)
      · rw [pi 37 (by omega) (by omega) (by omega) (by omega), (G2.2.1 37 (by omega) (by unfold txA; omega) (fun i hi => by
            have := nd_ge R1.fx (L5.2.2.2.1 37 (List.mem_of_getElem? hi))
            omega)).1]
        exact t3 k hk
      · rw [p0 110 (by decide), w0 110 (by decide) (by decide), G2.2.2.1 110 (by decide) (by decide) (by decide)]
        exact e110
  · -- something is broken
    have htl : tlR t n W = ((w0.1 : Int), w0.2, W) := by
      unfold tlR
      rw [show pTx t n (n + 1 - fiS t n) W (fiS t n) = .inr (p', es, W') from hp]
      dsimp only
      rw [hls]
    obtain ⟨w, x, r, S2, H2, ⟨e62, h62⟩, G2, g1, g2, g3, g4, g5⟩ := T2
    obtain ⟨r1, -, r3⟩ := S2.rl
    rw [hls2] at r3
    obtain ⟨h23, h24⟩ := r3
    have hw8 := r1 w0 (lsE_mem E' w0 hls2)
    obtain ⟨b1, b2, b3, b4, b5⟩ := S2.bd
    have := fin υ υ lst' cap' w0.1 w0.2 hw8.1 htl G2.tg S2.fx S2.ls ⟨b2, b3⟩ (rmw G2)
    refine ⟨fun z => ?_, fun z => ?_⟩
    · rw [h23, h24]
      exact S_X23_tell_59 S2.fx this
    · rw [h23] at z
      exact absurd ((oN_le (a := 0) (by omega) (by omega)).mpr (Nat.zero_le _)) z
  · -- a sign that can't stand there
    have htl : tlR t n W = ((q : Int), 1, W) := by
      unfold tlR
      rw [show pTx t n (n + 1 - fiS t n) W (fiS t n) = .inl q from hp]
    obtain ⟨hq, Fυ, ψ, m', lst', cap', G2, Fψ, Lψ, -, -, -, y1, y2, ea, es', e6', hcell⟩ := wt
    have hsa : υ.sh[a]? = some (Sh.obj 23) := by
      rw [es', ea, List.getElem?_append_right (Nat.le_refl _), Nat.sub_self]
      rfl
    have hle : σ1.sh.length ≤ ψ.sh.length := by
      obtain ⟨⟨more, -, -, hR⟩, -⟩ := G2
      exact hR.len
    have c6 := hcell 6 (by omega)
    have Lυ : LsS υ 6 lst' cap' := Lψ.mono (fun b s z => by rw [es', List.getElem?_append_left (List.getElem?_eq_some_iff.mp z).1]; exact z) (by rw [c6.1]) (by rw [c6.2.2]) (fun b hb => (hcell b (List.getElem?_eq_some_iff.mp (Lψ.arr hb)).1).2.2)
    have hrm : RmW σ.sh υ.sh (lst'.length - lst.length) cap cap' := by
      obtain ⟨⟨more, q1, -, ext, q2, q3, q4⟩, -⟩ := G2
      have hm : lst'.length - lst.length = more.length := by
        rw [q1, List.length_append]
        omega
      rw [hm]
      refine ⟨ext ++ [Sh.obj 23], by rw [es', q2, er1.1, List.append_assoc], ?_, ?_⟩
      · rw [List.length_append]
        show ext.length + 1 ≤ _
        omega
      · rw [szS_app]
        have := szS_obj
        omega
    refine tell_catch (S_X23_tell_65 Fυ ⟨hsa, ?_⟩)
    rw [e6']
    have hqn : q ≤ 8192 := by omega
    exact fin υ υ lst' cap' q 1 hqn htl (G2.tg.more ⟨_, es'⟩ (by omega) hcell) Fυ Lυ ⟨y1, y2⟩ hrm
end TELL

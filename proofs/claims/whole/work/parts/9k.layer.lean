/-! THE REFERENCE'S READER: layer(), call() -/
/-- a Wrong was thrown at q, somewhere behind σ0 -/
def WT (n k0 c0 l0 m0 : Nat) (σ0 : Sg) (lst0 : List Nat) (i0 cap0 : Nat) (τ : Sg) (a q : Nat) : Prop := q ≤ n ∧ FX ΦR τ.sh τ.r ∧ ∃ σ m lst cap, TF k0 c0 l0 m0 σ0 σ lst0 cap0 lst cap (fun i => i0 ≤ i) ∧ FX ΦR σ.sh σ.r ∧ LsS σ 6 lst cap ∧ σ.i 5 1 = Int32.ofNat m ∧ i0 ≤ m ∧ m ≤ lst.length ∧ lst.length ≤ 23400 ∧ cap ≤ 2 * lst.length + 10 ∧ a = σ.sh.length ∧ τ.sh = σ.sh ++ [Sh.obj 23] ∧ τ.i a 6 = Int32.ofNat q ∧ ∀ b, b < σ.sh.length → τ.i b = σ.i b ∧ τ.l b = σ.l b ∧ τ.r b = σ.r b
theorem WT.tr {n k0 c0 l0 m0 k1 c1 l1 m1 : Nat} {σ0 σ : Sg} {lst0 lst : List Nat} {i0 i1 cap0 cap : Nat} {a q : Nat} {υ : Sg} {W : Nat → Prop} (h : WT n k1 c1 l1 m1 σ lst i1 cap υ a q) (H : TF k0 c0 l0 m0 σ0 σ lst0 cap0 lst cap W) (hW : ∀ i, W i → i0 ≤ i) (hm : i0 ≤ i1) (e1 : k0 ≤ k1) (e2 : c0 ≤ c1) (e3 : l0 ≤ l1) (e4 : m0 ≤ m1) : WT n k0 c0 l0 m0 σ0 lst0 i0 cap0 υ a q := by
  obtain ⟨h1, h2, σ1, m1, lst1, cap1, h3, h4, h5, h6, h7, h8⟩ := h
  exact ⟨h1, h2, σ1, m1, lst1, cap1, ((TF.refl k0 c0 l0 m0 σ0 lst0 cap0 (fun i => i0 ≤ i)).tr H hW (Nat.le_refl _) (Nat.le_refl _) (Nat.le_refl _) (Nat.le_refl _)).tr h3 (fun i hi => Nat.le_trans hm hi) e1 e2 e3 e4, h4, h5, h6, by omega, h8⟩
theorem WR.wt {n k0 c0 l0 m0 nv : Nat} {σ : Sg} {lst : List Nat} {m cap : Nat} {a q : Nat} {υ : Sg} (h : WR n 5 nv σ lst m cap υ a q) : WT n k0 c0 l0 m0 σ lst m cap υ a q := by
  obtain ⟨h1, h2, σ1, m1, lst1, cap1, h3, h4⟩ := h
  exact ⟨h1, h2, σ1, m1, lst1, cap1, h3.tf, h4⟩
theorem WM.wt {n k0 c0 l0 m0 M : Nat} {σ : Sg} {lst : List Nat} {m cap : Nat} {a q : Nat} {υ : Sg} (h : WM n 5 M σ lst m cap υ a q) (hM : MtP M) (h2 : M = 50 ∨ 2501 + 4 * m0 ≤ M) : WT n k0 c0 l0 m0 σ lst m cap υ a q := by
  obtain ⟨h1, h2, σ1, m1, lst1, cap1, h3, h4⟩ := h
  exact ⟨h1, h2, σ1, m1, lst1, cap1, h3.tf hM (by assumption), h4⟩
/-- what no kind, call, layer told holds -/
def fre (k0 c0 l0 a : Nat) : Prop := (10 ≤ a ∧ a ≤ 36) ∨ (38 ≤ a ∧ a < 54) ∨ (2193 + 9 * k0 ≤ a ∧ a < 2409) ∨ (2409 + 3 * c0 ≤ a ∧ a < 2481) ∨ (2481 + 2 * l0 ≤ a ∧ a < 2497)
/-- where a declaration that makes no Node stands: the reader, the world, what stayed since σ0 -/
def DS (t : Nat → Int32) (n : Nat) (B : Int32 × Int32 × Rf) (σ0 : Sg) (m0 : Nat) (ks : List Knd) (cs : List Cal) (ls : List (List Int32)) (w : Int) (m : Nat) (lst : List Nat) (cap u : Nat) (τ : Sg) (p : Nat) (es : Evs) : Prop :=
  RX t n (enW ks cs ls w) B τ p es m lst cap u ∧ W3 ks cs ls τ ∧ TF ks.length cs.length ls.length m0 σ0 τ lst cap lst cap (fun _ => False) ∧ τ.i 0 6 = σ0.i 0 6
section DS
variable {Z : zT} {d : Nat} {t : Nat → Int32} {n : Nat} {B : Int32 × Int32 × Rf} {σ0 σ τ υ : Sg} {m0 : Nat} {ks : List Knd} {cs : List Cal} {ls : List (List Int32)} {w : Int} {p p' c : Nat} {vs : List (Nat × Nat)} {es es' E : Evs} {m : Nat} {lst : List Nat} {cap u u' : Nat} {K : kS}
theorem DS.rf (D : DS t n B σ0 m0 ks cs ls w m lst cap u τ p es) (S : RX t n (enW ks cs ls w) B υ p' es' m lst cap u') (hu : u' ≤ u) (G : RF 5 0 τ υ lst cap lst cap (fun _ => False)) : DS t n B σ0 m0 ks cs ls w m lst cap u υ p' es' := by
  obtain ⟨b1, b2, b3, b4, b5⟩ := D.1.bd
  exact ⟨S.wk hu b5, D.2.1.rf D.1 G, D.2.2.1.tr G.tf (fun _ z => z) (Nat.le_refl _) (Nat.le_refl _) (Nat.le_refl _) (Nat.le_refl m0), (G.2.2.1 6 (by decide)).trans D.2.2.2⟩
theorem DS.wt {nv a q : Nat} (D : DS t n B σ0 m0 ks cs ls w m lst cap u τ p es) (h : WR n 5 nv τ lst m cap υ a q) : WT n ks.length cs.length ls.length m0 σ0 lst m cap υ a q := h.wt.tr D.2.2.1 (fun _ z => z.elim) (Nat.le_refl _) (Nat.le_refl _) (Nat.le_refl _) (Nat.le_refl _) (Nat.le_refl m0)
theorem DS.dw (D : DS t n B σ0 m0 ks cs ls w m lst cap u τ p es) (hs : υ.sh = τ.sh) (hl : υ.l = τ.l) (hr : υ.r = τ.r) (hi : ∀ a, ¬ fre ks.length cs.length ls.length a → υ.i a = τ.i a) : DS t n B σ0 m0 ks cs ls w m lst cap u υ p es := by
  obtain ⟨S, H, G, e6⟩ := D
  have hk := H.1.2.1
  have hc := H.2.1.2.1
  have hl8 := H.2.2.2.1
  have i0 : ∀ k, υ.i 0 k = τ.i 0 k := fun k => by rw [hi 0 (by unfold fre; omega)]
  have H2 : W3 ks cs ls υ := H.keep (fun a ha => hi a (by unfold fre; omega)) (i0 4) (i0 5) (i0 7)
  have hw := H.w S.en
  refine ⟨S.dw hs hr (fun a ha => hi a (by unfold fre; omega)) (fun k _ => i0 k) (H2.en (fun q => ⟨(i0 33).trans (hw q).1, (hw q).2⟩)), H2, G.tr (tf_i (m0 := m0) hs hl hr (fun a a0 ha => hi a (by unfold txA at ha; unfold fre; omega)) (fun k _ => i0 k)) (fun _ z => z) (Nat.le_refl _) (Nat.le_refl _) (Nat.le_refl _) (Nat.le_refl m0), (i0 6).trans e6⟩
theorem DS.w1 (D : DS t n B σ0 m0 ks cs ls w m lst cap u τ p es) {a k : Nat} {x : Int32} (ha : fre ks.length cs.length ls.length a) : DS t n B σ0 m0 ks cs ls w m lst cap u (τ.wi a k x) p es := D.dw (υ := τ.wi a k x) rfl rfl rfl (fun b hb => wi_row (fun z => hb (by rw [z]; exact ha)))
/-- a name written down -/
theorem ds_be {A q l : Nat} (hd : 1 ≤ d) (hb : ∀ k, by8 (t k)) (D : DS t n B σ0 m0 ks cs ls w m lst cap u τ p es) (pA : sh0R[A]? = some (Sh.obj 20)) (h1 : fre ks.length cs.length ls.length A) (h2 : fre ks.length cs.length ls.length (A + 1)) (hq : q + l ≤ 8192) (hl : l ≤ 16) (k : ∀ υ, DS t n B σ0 m0 ks cs ls w m lst cap u υ p es → NmIs υ A (txN t q l) → (∀ b, b ≠ A → b ≠ A + 1 → υ.i b = τ.i b) → K (.inl none) υ) : B_X19_be_0 Z d τ A 37 (Int32.ofNat (32 * q + l) >>> ((5 : Int32) &&& 31)) (Int32.ofNat (32 * q + l) &&& (31 : Int32)) K := by
  obtain ⟨d, rfl⟩ : ∃ e, d = e + 1 := ⟨d - 1, by omega⟩
  have hk := D.2.1.1.2.1
  rw [nm_p (by omega) (by omega), nm_l (by omega) (by omega)]
  refine rf_nbe D.1.fx pA ⟨fun z => ?_, fun z => ?_⟩ D.1.tx.2.2.1 hb hl hq (fun υ F1 fr hn => ?_)
  · rw [z] at h1
    unfold fre at h1
    omega
  · rw [z] at h2
    unfold fre at h2
    omega
  · have hi : ∀ b, b ≠ A → b ≠ A + 1 → υ.i b = τ.i b := fun b b1 b2 => funext fun j => fr.2.2.2 b j b2 (fun z => b1 z.1)
    refine k υ (D.dw fr.1 fr.2.1 fr.2.2.1 (fun a ha => hi a (fun z => ha (by rw [z]; exact h1)) (fun z => ha (by rw [z]; exact h2)))) hn hi
theorem DS.ub (D : DS t n B σ0 m0 ks cs ls w m lst cap u τ p es) : u ≤ 23000 := D.1.bd.2.2.2.2
theorem DS.lo {nv : Nat} (D : DS t n B σ0 m0 ks cs ls w m lst cap u τ p es) (G : RF 5 nv τ υ lst cap lst cap (fun _ => False)) {a : Nat} (h1 : 9 ≤ a) (h2 : a < 3365) (h3 : a ≠ 54) : υ.i a = τ.i a := rx_lo D.1 G h1 h2 h3
theorem DS.brk {q r : Nat} (hd : 1 ≤ d) (D : DS t n B σ0 m0 ks cs ls w m lst cap u τ p es) (hq : q ≤ 8192) (hr : r ≤ 7) (k : ∀ υ, DS t n B σ0 m0 ks cs ls w m lst cap u υ p (es ++ [(q, r)]) → RF 5 0 τ υ lst cap lst cap (fun _ => False) → K (.inl none) υ) : B_X23_breaks_0 Z d τ (Int32.ofNat r) (Int32.ofNat q) K := rx_breaks hd hq hr D.1 (fun υ S G => k υ (D.rf S (Nat.le_refl _) G) G)
theorem nmE_n {env : Env} {full : Prop} [Decidable full] (h : ¬ full) : nmE t n env p full = if toE env (nmS t n p) = true then [(p, 2)] else [] := by
  unfold nmE
  rw [if_neg h, List.append_nil]
theorem nmE_y {env : Env} {full : Prop} [Decidable full] (h : full) : nmE t n env p full = (if toE env (nmS t n p) = true then [(p, 2)] else []) ++ [(p, 7)] := by
  unfold nmE
  rw [if_pos h]
/-- layer() -/
theorem rs_layerD (hZ : ZK Z) (hd : 16 ≤ d) (hb : ∀ k, by8 (t k)) (S : RX t n (enW ks cs ls w) B σ p E m lst cap u) (H : W3 ks cs ls σ)
    (h1 : ∀ p' es x, pLy t n (enW ks cs ls w) ls.length p = .inr (p', es, x) → ∀ τ, DS t n B τ m0 ks cs (adO ls x) w m lst cap u τ p' (E ++ es) → TF ks.length cs.length ls.length m0 σ τ lst cap lst cap (fun _ => False) → τ.i 0 6 = σ.i 0 6 → K (.inl none) τ)
    (h0 : ∀ q, pLy t n (enW ks cs ls w) ls.length p = .inl q → ∀ τ a, WT n ks.length cs.length ls.length m0 σ lst m cap τ a q → K (.inr ("DispatchHouseModel$Wrong", a)) τ) : B_X23_layer_0 Z (d + 1) σ K := by
  have hpn := S.pn
  have D0 : DS t n B σ m0 ks cs ls w m lst cap u σ p E := ⟨S, H, TF.refl _ _ _ _ _ _ _ _, rfl⟩
  refine S_X23_layer_0 S.fx ?_
  rw [S.cur.2.1]
  refine rx_name hZ (by omega) S (fun hty hq hl τ1 S1 G1 => ?_) (fun n2 τ1 a wr => h0 p (by unfold pLy; rw [if_neg n2]) τ1 a (D0.wt wr))
  have D1 := D0.rf S1 (by omega) G1
  have hg := nxS_gt (t := t) (n := n) (p := p) (ty_pos (t := t) (by omega))
  have enm : txN t p (lnS t n p) = nmS t n p := rfl
  have ep : pLy t n (enW ks cs ls w) ls.length p = if tyS t n (nxS t n p) = 7 then .inr (nxS t n (nxS t n p), nmE t n (enW ks cs ls w) p (ls.length = 8), if ls.length = 8 then none else some (nmS t n p)) else .inl (nxS t n p) := by
    unfold pLy
    rw [if_pos hty]
  have hln := H.2.2.2.1
  -- from the ';' on
  have go40 : ∀ τ es, DS t n B σ m0 ks cs ls w m lst cap u τ (nxS t n p) (E ++ es) → es = nmE t n (enW ks cs ls w) p (ls.length = 8) → B_X23_layer_40 Z (d + 1) τ (Int32.ofNat (32 * p + lnS t n p)) K := by
    intro τ es D hes
    refine S_X23_layer_40 D.1.fx (rx_want (y := 7) (by decide) hZ (by omega) D.1 (fun h7 τ2 S2 G2 => ?_) (fun n7 τ2 a wr => h0 (nxS t n p) (by rw [ep, if_neg n7]) τ2 a (D.wt wr)))
    have D2 := D.rf S2 (by omega) G2
    rw [if_pos h7, ← hes] at ep
    have e7 := D2.2.1.2.2.1
    refine ⟨fun z => ?_, fun z => ?_⟩
    · have hlt : ls.length < 8 := by
        refine Nat.lt_of_le_of_ne hln (fun y => z ?_)
        rw [e7, y]
        rfl
      rw [e7, oN_t (by omega)]
      refine ⟨ib_oN hlt (by decide), ?_⟩
      rw [if_neg (by omega)] at ep
      refine ds_be (by omega) hb D2 (kE_4 hlt) (by unfold fre; omega) (by unfold fre; omega) hq hl (fun τ3 D3 nm3 fr3 => ?_)
      have e73 := D3.2.1.2.2.1
      have ew := D3.2.1.w D3.1.en
      have W4 : W3 ks cs (ls ++ [nmS t n p]) (τ3.wi 0 7 (τ3.i 0 7 + 1)) := by
        obtain ⟨hk, hc, l1, l2, l3⟩ := D3.2.1
        have hk2 := hk.2.1
        have hc2 := hc.2.1
        have hA := (show W3 ks cs ls τ3 from ⟨hk, hc, l1, l2, l3⟩)
        refine ⟨⟨(wi_ne (by decide)).trans hk.1, hk.2.1, fun k x q => ?_⟩, ⟨(wi_ne (by decide)).trans hc.1, hc.2.1, fun k x q => ?_⟩, ?_, ?_, fun k nm q => ?_⟩
        · exact (hk.2.2 k x q).mono (fun a a1 _ => wi_row (by omega))
        · exact (hc.2.2 k x q).mono (fun a a1 _ => wi_row (by omega))
        · rw [wi_at, e73, oN_1, List.length_append]
          rfl
        · rw [List.length_append]
          show ls.length + 1 ≤ 8
          omega
        · by_cases hkl : k < ls.length
          · rw [List.getElem?_append_left hkl] at q
            exact (l3 k nm q).mono (wi_row (by omega)) (wi_row (by omega))
          · rw [List.getElem?_append_right (by omega)] at q
            have hk0 : k = ls.length := by
              have := (List.getElem?_eq_some_iff.mp q).1
              have e1 : List.length [nmS t n p] = 1 := rfl
              omega
            subst hk0
            rw [Nat.sub_self] at q
            cases q
            exact nm3.mono (wi_row (by omega)) (wi_row (by omega))
      have fi : ∀ a, a ≠ 0 → (τ3.wi 0 7 (τ3.i 0 7 + 1)).i a = τ3.i a := fun a ha => wi_row ha
      have f0 : ∀ k, ¬ (4 ≤ k ∧ k ≤ 7) → (τ3.wi 0 7 (τ3.i 0 7 + 1)).i 0 k = τ3.i 0 k := fun k hk => wi_ne (by omega)
      have S4 : RX t n (enW ks cs (ls ++ [nmS t n p]) w) B (τ3.wi 0 7 (τ3.i 0 7 + 1)) (nxS t n (nxS t n p)) (E ++ es) m lst cap u := D3.1.dw rfl rfl (fun a ha => fi a (by omega)) f0 (W4.en (fun q => ⟨(f0 33 (by decide)).trans (ew q).1, (ew q).2⟩))
      refine h1 _ _ _ ep _ ⟨S4, W4, TF.refl _ _ _ _ _ _ _ _, rfl⟩ (D3.2.2.1.tr (tf_i (m0 := m0) (τ := τ3.wi 0 7 (τ3.i 0 7 + 1)) rfl rfl rfl (fun a a0 _ => fi a a0) f0) (fun _ z => z) (Nat.le_refl _) (Nat.le_refl _) (Nat.le_refl _) (Nat.le_refl m0)) ((wi_ne (by decide)).trans D3.2.2.2)
    · have h8 : ls.length = 8 := (oN_eq (b := 8) (by omega) (by omega)).mp (e7.symm.trans z)
      rw [if_pos h8] at ep
      exact h1 _ _ _ ep τ2 ⟨D2.1, D2.2.1, TF.refl _ _ _ _ _ _ _ _, rfl⟩ D2.2.2.1 D2.2.2.2
  have go24 : ∀ τ es, DS t n B σ m0 ks cs ls w m lst cap u τ (nxS t n p) (E ++ es) → es = (if toE (enW ks cs ls w) (nmS t n p) = true then [(p, 2)] else []) → B_X23_layer_24 Z (d + 1) τ (Int32.ofNat p) (Int32.ofNat (32 * p + lnS t n p)) K := by
    intro τ es D hes
    have e7 := D.2.1.2.2.1
    refine S_X23_layer_24 D.1.fx ⟨fun z => go40 τ es D ?_, fun z => D.brk (r := 7) (by omega) (by omega) (by decide) (fun τ2 D2 G2 => go40 τ2 (es ++ [(p, 7)]) (by rw [← List.append_assoc]; exact D2) ?_)⟩
    · rw [nmE_n (fun y => z (by rw [e7, y]; rfl))]
      exact hes
    · rw [nmE_y ((oN_eq (b := 8) (by omega) (by omega)).mp (e7.symm.trans z)), hes]
  refine rx_told (by omega) S1 hq hl (fun ht => ⟨fun z => absurd z (by decide), fun _ => D1.brk (r := 2) (by omega) (by omega) (by decide) (fun τ2 D2 G2 => go24 τ2 [(p, 2)] D2 ?_)⟩) (fun ht => ⟨fun _ => go24 τ1 [] (by rw [List.append_nil]; exact D1) ?_, fun z => absurd rfl z⟩)
  · rw [if_pos (show toE (enW ks cs ls w) (nmS t n p) = true from ht)]
  · rw [if_neg (show ¬ toE (enW ks cs ls w) (nmS t n p) = true from ht)]
end DS

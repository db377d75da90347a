/-! THE REFERENCE'S READER: readText(), whole -/
theorem tx_l {t : Nat → Int32} {n f : Nat} {W : Wld} {p q : Nat} (h : pDe t n W p = .inl q) : pTx t n (f + 1) W p = .inl q := by
  rw [pTx, h]
theorem tx_e {t : Nat → Int32} {n f : Nat} {W W' : Wld} {p p' : Nat} {es : Evs} (h : pDe t n W p = .inr (p', es, W')) (h0 : tyS t n p' = 0) : pTx t n (f + 1) W p = .inr (p', es, W') := by
  rw [pTx, h]
  dsimp only
  rw [if_pos h0]
theorem tx_m {t : Nat → Int32} {n f : Nat} {W W' : Wld} {p p' : Nat} {es : Evs} (h : pDe t n W p = .inr (p', es, W')) (h0 : tyS t n p' ≠ 0) : pTx t n (f + 1) W p = match pTx t n f W' p' with
    | .inl q => .inl q
    | .inr (p2, es2, W2) => .inr (p2, (if es = [] then es2 else es), W2) := by
  rw [pTx, h]
  dsimp only
  rw [if_neg h0]
  cases pTx t n f W' p' <;> rfl
theorem tx_ms {t : Nat → Int32} {n f : Nat} {W W' : Wld} {p p' : Nat} {es : Evs} (h : pDe t n W p = .inr (p', es, W')) (h0 : tyS t n p' ≠ 0) : psR (pTx t n (f + 1) W p) = psR (pTx t n f W' p') := by
  rw [tx_m h h0]
  cases pTx t n f W' p' <;> rfl
theorem ps_inr {α : Type} {r : Nat ⊕ (Nat × α)} {p : Nat} (h : psR r = .inr p) : ∃ x, r = .inr (p, x) := by
  rcases r with q | ⟨q, x⟩
  · cases h
  · cases h
    exact ⟨x, rfl⟩
theorem ps_inl {α : Type} {r : Nat ⊕ (Nat × α)} {p : Nat} (h : psR r = .inl p) : r = .inl p := by
  rcases r with q | ⟨q, x⟩
  · cases h
    rfl
  · cases h
section TEXTE
variable {Z : zT} {d : Nat} {t : Nat → Int32} {n : Nat} {env : Env} {B : Int32 × Int32 × Rf} {B1 : Int32} {σ0 : Sg} {k0 c0 l0 m0 : Nat} {i0 : Nat} {lst0 : List Nat} {cap0 u : Nat} {K : kS}
theorem MsL.tf {σ τ : Sg} {ms : List (Mtd × Bool)} {cs : List Cal} {p : Nat} {es : Evs} {m b k1 c1 l1 m1 : Nat} {lst lst' : List Nat} {cap cap' : Nat} {W : Nat → Prop} (h : MsL ms cs σ lst b) (S : RX t n env B σ p es m lst cap u) (G : TF k1 c1 l1 m1 σ τ lst cap lst' cap' W) (hm : ms.length ≤ m1) (h120 : ms.length ≤ 120) (hW : ∀ i, i < b → ¬ W i) : MsL ms cs τ lst' b := by
  intro j x hx
  have hj := (List.getElem?_eq_some_iff.mp hx).1
  have hs := sh_ge S.fx
  have lo : ∀ a, 2501 + 4 * j ≤ a → a < 2501 + 4 * j + 4 → τ.i a = σ.i a ∧ τ.l a = σ.l a ∧ (σ.r 6 1 ≠ Rf.ptr a → τ.r a = σ.r a) := fun a a1 a2 => G.2.1 a (by omega) (by unfold txA; omega) (fun i hi => by
    have := nd_ge S.fx (S.ls.2.2.2.1 a (List.mem_of_getElem? hi))
    omega)
  refine (h j x hx).mono (fun _ _ z => z) (fun a a1 a2 => (lo a a1 a2).1) ((lo _ (Nat.le_refl _) (by omega)).2.2 fun z => ?_) (fun y hy hys => ?_)
  · have := oa_ge S.fx (S.ls.arr z)
    omega
  · obtain ⟨i, i1, i2, i3⟩ := hy
    have hge := nd_ge S.fx hys
    obtain ⟨g1, g2, g3⟩ := G.2.1 y (List.getElem?_eq_some_iff.mp hys).1 (by unfold txA; omega) (fun i' hi' => by
      obtain ⟨a1, a2⟩ := List.getElem?_eq_some_iff.mp i3
      obtain ⟨b1, b2⟩ := List.getElem?_eq_some_iff.mp hi'
      have : i = i' := (List.getElem_inj S.ls.2.2.2.2.1).mp (a2.trans b2.symm)
      rw [← this]
      exact hW i i2)
    obtain ⟨more, -, -, hR⟩ := G.1
    refine ⟨⟨i, i1, i2, G.pre i y i3⟩, hR.get hys, g1, g2, g3 fun z => ?_⟩
    have := S.ls.arr z
    rw [hys] at this
    cases this
theorem MsL.cs {τ : Sg} {ms : List (Mtd × Bool)} {cs : List Cal} {lst : List Nat} {b : Nat} (h : MsL ms cs τ lst b) (x : Option Cal) : MsL ms (adO cs x) τ lst b := by
  intro j y hy
  refine (h j y hy).mono (fun k c hk => ?_) (fun _ _ _ => rfl) rfl (fun _ hr hs => ⟨hr, hs, rfl, rfl, rfl⟩)
  cases x with
  | none => exact hk
  | some x =>
    show (cs ++ [x])[k]? = some c
    rw [List.getElem?_append_left (List.getElem?_eq_some_iff.mp hk).1]
    exact hk
/-- something was broken before -/
theorem tx_dirty (hZ : ZK Z) (hd : 71 ≤ d) (hb : ∀ k, by8 (t k)) (hu : u + 2 ≤ 23000) {w0 : Nat × Nat} : ∀ f (τ : Sg) p E ks cs ls mn m lst cap (W : Wld), n - p < f → TxS t n B1 σ0 lst0 cap0 i0 k0 c0 l0 m0 u τ p E ks cs ls mn m lst cap → lsE E = some w0 → w0.1 < p →
    (∀ p', psR (pTx t n f W p) = .inr p' → ∀ υ E' ks' cs' ls' mn' m' lst' cap', TxS t n B1 σ0 lst0 cap0 i0 k0 c0 l0 m0 u υ p' E' ks' cs' ls' mn' m' lst' cap' → lsE E' = some w0 → K (.inl none) υ) →
    (∀ q, psR (pTx t n f W p) = .inl q → ∀ υ a, WT n k0 c0 l0 m0 σ0 lst0 i0 cap0 υ a q → K (.inr ("DispatchHouseModel$Wrong", a)) υ) → B_X23_readText_4 Z (d + 1) τ K := by
  intro f
  induction f with
  | zero => intro τ p E ks cs ls mn m lst cap W h; exact absurd h (Nat.not_lt_zero _)
  | succ f ih =>
    intro τ p E ks cs ls mn m lst cap W hf T hE hw h1 h0
    have cont : ∀ p', psR (pDe t n W p) = .inr p' → ∀ es2, In p p' es2 → ∀ υ ks' cs' ls' mn' m' lst' cap', TxS t n B1 σ0 lst0 cap0 i0 k0 c0 l0 m0 u υ p' (E ++ es2) ks' cs' ls' mn' m' lst' cap' → (¬ (υ.i 0 17) = 0 → B_X23_readText_4 Z (d + 1) υ K) ∧ ((υ.i 0 17) = 0 → K (.inl none) υ) := by
      intro p' hp' es2 hi υ ks' cs' ls' mn' m' lst' cap' T2
      obtain ⟨⟨es, W'⟩, hde⟩ := ps_inr hp'
      have hgt := (ev_de hde).1
      have hls := ls_keep hE hw hi
      have hcur : Cur t n p' υ := by
        obtain ⟨w, x, r, S, -⟩ := T2
        exact S.cur
      have hpn := hcur.1
      refine ⟨fun z => ?_, fun z => ?_⟩
      · have hne : tyS t n p' ≠ 0 := fun y => z ((cur_end hcur).mpr y)
        rw [tx_ms hde hne] at h1 h0
        exact ih υ p' _ _ _ _ _ _ _ _ W' (by omega) T2 hls (by omega) h1 h0
      · have he := (cur_end hcur).mp z
        exact h1 p' (by rw [tx_e hde he]; rfl) υ _ _ _ _ _ _ _ _ T2 hls
    have le : ∀ {y : Nat}, 2 ≤ y → tyS t n p = y → p + 1 ≤ nxS t n p := fun hy h => ty_nx (t := t) (n := n) (p := p) (by omega)
    refine tx_any hZ hd hb hu T (fun y p' es x hp υ T2 _ => ?_) (fun y p' es x hp υ T2 _ => ?_) (fun y p' es x hp υ T2 _ => ?_) (fun y p' es D hp υ tw m' lst' cap' M hM htw T2 _ hm' hD => ?_) (fun q hq υ a wt => h0 q (by rw [tx_l (ps_inl (hq W))]; rfl) υ a wt)
    · have := le (by decide) y
      exact cont p' (by rw [de_20 y W _ _ _, hp]; rfl) es ((ev_ki hp).2.wk (by omega) (Nat.le_refl _)) υ _ _ _ _ _ _ _ T2
    · have := le (by decide) y
      exact cont p' (by rw [de_22 y W _ _, hp]; rfl) es ((ev_cl hp).2.wk (by omega) (Nat.le_refl _)) υ _ _ _ _ _ _ _ T2
    · have := le (by decide) y
      exact cont p' (by rw [de_23 y W _ _, hp]; rfl) es ((ev_ly hp).2.wk (by omega) (Nat.le_refl _)) υ _ _ _ _ _ _ _ T2
    · have := le (by decide) y
      have g := ev_mt hp
      rw [List.append_assoc] at T2
      refine cont p' (by rw [de_24 y W _ _, hp]; rfl) (es ++ tw) (in_app (g.2.wk (by omega) (Nat.le_refl _)) ?_) υ _ _ _ _ _ _ _ T2
      rcases htw with ⟨e, -⟩ | ⟨e, -⟩
      · rw [e]
        exact in_one (by omega) (by omega)
      · rw [e]
        exact in_nil _ _
theorem pl_3 {ks : List Knd} {cs : List Cal} {ls : List (List Int32)} {τ : Sg} (H : W3 ks cs ls τ) {w : Int} (nm : List Int32) : plO (enW ks cs ls w) ((enW ks cs ls w).2.1 nm) ≤ 3 ∧ ∀ k, (enW ks cs ls w).2.1 nm = some k → ∃ cl, cs[k]? = some cl ∧ cl.2.1 = plO (enW ks cs ls w) ((enW ks cs ls w).2.1 nm) := by
  have key : ∀ k, (enW ks cs ls w).2.1 nm = some k → ∃ cl, cs[k]? = some cl ∧ cl.2.1 = plO (enW ks cs ls w) (some k) ∧ cl.2.1 ≤ 3 := by
    intro k hk
    have := fi_lt hk
    rw [List.length_map] at this
    have e := List.getElem?_eq_getElem this
    refine ⟨_, e, ?_, ((H.2.1.2.2 k _ e).2.1).2.1⟩
    show _ = ((cs[k]?).map (·.2.1)).getD 0
    rw [e]
    rfl
  cases h : (enW ks cs ls w).2.1 nm with
  | none => exact ⟨Nat.zero_le _, fun k hk => (by cases hk)⟩
  | some k =>
    obtain ⟨cl, g1, g2, g3⟩ := key k h
    exact ⟨by rw [← g2]; exact g3, fun k' hk => by cases hk; exact ⟨cl, g1, g2⟩⟩
/-- nothing was broken before -/
theorem tx_clean (hZ : ZK Z) (hd : 71 ≤ d) (hb : ∀ k, by8 (t k)) (hu : u + 2 ≤ 23000) : ∀ f (τ : Sg) p ks cs ls ms m lst cap, n - p < f → TxS t n B1 σ0 lst0 cap0 i0 k0 c0 l0 m0 u τ p [] ks cs ls (List.length ms) m lst cap → MsL ms cs τ lst m →
    (∀ p' W', pTx t n f (ks, cs, ls, ms) p = .inr (p', [], W') → ∀ υ m' lst' cap', TxS t n B1 σ0 lst0 cap0 i0 k0 c0 l0 m0 u υ p' [] W'.1 W'.2.1 W'.2.2.1 W'.2.2.2.length m' lst' cap' → MsL W'.2.2.2 W'.2.1 υ lst' m' → K (.inl none) υ) →
    (∀ p' es W' w0, pTx t n f (ks, cs, ls, ms) p = .inr (p', es, W') → lsE es = some w0 → ∀ υ E' ks' cs' ls' mn' m' lst' cap', TxS t n B1 σ0 lst0 cap0 i0 k0 c0 l0 m0 u υ p' E' ks' cs' ls' mn' m' lst' cap' → lsE E' = some w0 → K (.inl none) υ) →
    (∀ q, pTx t n f (ks, cs, ls, ms) p = .inl q → ∀ υ a, WT n k0 c0 l0 m0 σ0 lst0 i0 cap0 υ a q → K (.inr ("DispatchHouseModel$Wrong", a)) υ) → B_X23_readText_4 Z (d + 1) τ K := by
  intro f
  induction f with
  | zero => intro τ p ks cs ls ms m lst cap h; exact absurd h (Nat.not_lt_zero _)
  | succ f ih =>
    intro τ p ks cs ls ms m lst cap hf T HM h1 h2 h0
    have cont : ∀ p' es W', pDe t n (ks, cs, ls, ms) p = .inr (p', es, W') → ∀ υ ks' cs' ls' mn' m' lst' cap', TxS t n B1 σ0 lst0 cap0 i0 k0 c0 l0 m0 u υ p' es ks' cs' ls' mn' m' lst' cap' → (es = [] → ks' = W'.1 ∧ cs' = W'.2.1 ∧ ls' = W'.2.2.1 ∧ mn' = W'.2.2.2.length ∧ MsL W'.2.2.2 W'.2.1 υ lst' m') → (¬ (υ.i 0 17) = 0 → B_X23_readText_4 Z (d + 1) υ K) ∧ ((υ.i 0 17) = 0 → K (.inl none) υ) := by
      intro p' es W' hde υ ks' cs' ls' mn' m' lst' cap' T2 hcl
      have hev := ev_de hde
      have hcur : Cur t n p' υ := by
        obtain ⟨w, x, r, S, -⟩ := T2
        exact S.cur
      have hpn := hcur.1
      by_cases he : es = []
      · subst he
        obtain ⟨rfl, rfl, rfl, rfl, HM2⟩ := hcl rfl
        refine ⟨fun z => ?_, fun z => h1 p' W' (tx_e hde ((cur_end hcur).mp z)) υ _ _ _ T2 HM2⟩
        have hne : tyS t n p' ≠ 0 := fun y => z ((cur_end hcur).mpr y)
        have hm := tx_m (f := f) hde hne
        refine ih υ p' W'.1 W'.2.1 W'.2.2.1 W'.2.2.2 m' lst' cap' (by omega) T2 HM2 (fun p2 W2 h => h1 p2 W2 ?_) (fun p2 es2 W2 w0 h => h2 p2 es2 W2 w0 ?_) (fun q h => h0 q ?_)
        · rw [hm, h]
          dsimp only
          rw [if_pos rfl]
        · rw [hm, h]
          dsimp only
          rw [if_pos rfl]
        · rw [hm, h]
      · obtain ⟨w0, hw0⟩ := ls_some he
        have hwp := (hev.2 w0 (lsE_mem es w0 hw0)).2
        refine ⟨fun z => ?_, fun z => h2 p' es W' w0 (tx_e hde ((cur_end hcur).mp z)) hw0 υ _ _ _ _ _ _ _ _ T2 hw0⟩
        have hne : tyS t n p' ≠ 0 := fun y => z ((cur_end hcur).mpr y)
        have hm := tx_m (f := f) hde hne
        refine tx_dirty hZ hd hb hu (w0 := w0) f υ p' es _ _ _ _ _ _ _ W' (by omega) T2 hw0 hwp (fun p2 h υ2 E2 ks2 cs2 ls2 mn2 m2 lst2 cap2 T3 hls => ?_) (fun q h => h0 q ?_)
        · obtain ⟨⟨es2, W2⟩, hx⟩ := ps_inr h
          refine h2 p2 es W2 w0 ?_ hw0 υ2 E2 _ _ _ _ _ _ _ T3 hls
          rw [hm, hx]
          dsimp only
          rw [if_neg he]
        · rw [hm, ps_inl h]
    have hSS : ∃ w x r, RX t n (enW ks cs ls w) (B1, x, r) τ p [] m lst cap u ∧ W3 ks cs ls τ ∧ ms.length ≤ 120 := by
      obtain ⟨w, x, r, S, H, ⟨-, h120⟩, -⟩ := T
      exact ⟨w, x, r, S, H, h120⟩
    obtain ⟨w, x, r, S, H, h120⟩ := hSS
    refine tx_any hZ hd hb hu T (fun y p' es x hp υ T2 G2 => ?_) (fun y p' es x hp υ T2 G2 => ?_) (fun y p' es x hp υ T2 G2 => ?_) (fun y p' es D hp υ tw m' lst' cap' M hM htw T2 G2 hm' hD => ?_) (fun q hq υ a wt => h0 q (by rw [tx_l (ps_inl (hq (ks, cs, ls, ms)))]) υ a wt)
    · refine cont p' es _ (by unfold pDe; rw [if_pos y]; dsimp only; rw [hp]) υ _ _ _ _ _ _ _ T2 (fun _ => ⟨rfl, rfl, rfl, rfl, HM.tf S G2 (Nat.le_refl _) h120 (fun _ _ z => z)⟩)
    · refine cont p' es _ (by unfold pDe; rw [if_neg (by omega), if_pos y]; dsimp only; rw [hp]) υ _ _ _ _ _ _ _ T2 (fun _ => ⟨rfl, rfl, rfl, rfl, (HM.tf S G2 (Nat.le_refl _) h120 (fun _ _ z => z)).cs x⟩)
    · refine cont p' es _ (by unfold pDe; rw [if_neg (by omega), if_neg (by omega), if_pos y]; dsimp only; rw [hp]) υ _ _ _ _ _ _ _ T2 (fun _ => ⟨rfl, rfl, rfl, rfl, HM.tf S G2 (Nat.le_refl _) h120 (fun _ _ z => z)⟩)
    · have HM2 := HM.tf S G2 (Nat.le_refl _) h120 (fun i hi z => by omega)
      obtain ⟨pl, hpl⟩ : ∃ pl, plO (enW ks cs ls (-1)) ((enW ks cs ls (-1)).2.1 (nmS t n (nxS t n p))) = pl := ⟨_, rfl⟩
      have hp3 := pl_3 (w := -1) H (nmS t n (nxS t n p))
      rw [hpl] at htw hD hp3
      have hcs := H.2.1.2.1
      have hok : es = [] → (∃ (k : Nat) (cl : Cal), D.1 = k ∧ cs[k]? = some cl ∧ cl.2.1 = pl) ∧ ms.length ≠ 120 ∧ pl ≤ D.2.2.2.1.length := by
        intro he
        subst he
        obtain ⟨⟨k, g1, g2⟩, g3, g4⟩ := mt_ok hp (by rw [hpl]; exact hp3.1)
        rw [hpl] at g4
        obtain ⟨cl, q1, q2⟩ := hp3.2 k g1
        exact ⟨⟨k, cl, g2, q1, q2⟩, g3, g4⟩
      have htwE : tw = if es = [] ∧ twB ms D pl = true then [(nxS t n p, 2)] else [] := by
        by_cases he : es = []
        · obtain ⟨o1, o2, o3⟩ := hok he
          have eM : M = 2501 + 4 * ms.length := by
            rw [hM, if_pos (by omega)]
            omega
          rw [eM] at htw hD
          have iff := th_iff HM2 hD o1 o3 hcs
          rcases htw with ⟨e1, -, e3⟩ | ⟨e1, e2⟩
          · rw [if_pos ⟨he, iff.mp e3⟩]
            exact e1
          · rw [if_neg (fun z => e2 ⟨he, iff.mpr z.2⟩)]
            exact e1
        · rcases htw with ⟨-, e2, -⟩ | ⟨e1, -⟩
          · exact absurd e2 he
          · rw [if_neg (fun z => he z.1)]
            exact e1
      have hde : pDe t n (ks, cs, ls, ms) p = .inr (p', es ++ tw, ks, cs, ls, if ms.length < 120 then ms ++ [(D, false)] else ms) := by
        unfold pDe
        rw [if_neg (by omega), if_neg (by omega), if_neg (by omega), if_pos y]
        dsimp only
        rw [hp, hpl, htwE]
      rw [List.nil_append] at T2
      refine cont p' (es ++ tw) _ hde υ _ _ _ _ _ _ _ T2 (fun he => ?_)
      obtain ⟨he1, he2⟩ := List.append_eq_nil_iff.mp he
      obtain ⟨⟨k, cl, o1, o2, o3⟩, o4, o5⟩ := hok he1
      have hlt : ms.length < 120 := by omega
      have eM : M = 2501 + 4 * ms.length := by
        rw [hM, if_pos hlt]
        omega
      rw [eM] at hD
      obtain ⟨d0, d1, d2, d3, d10, dS, d4, dT, dB⟩ := hD
      dsimp only
      rw [if_pos hlt, if_pos hlt]
      refine ⟨rfl, rfl, rfl, by rw [List.length_append]; rfl, fun j z hz => ?_⟩
      by_cases hj : j < ms.length
      · rw [List.getElem?_append_left hj] at hz
        refine (HM2 j z hz).mono (fun _ _ q => q) (fun _ _ _ => rfl) rfl (fun y' hr hs => ⟨?_, hs, rfl, rfl, rfl⟩)
        obtain ⟨i, i1, i2, i3⟩ := hr
        exact ⟨i, i1, by omega, i3⟩
      · rw [List.getElem?_append_right (by omega)] at hz
        have hj0 : j = ms.length := by
          have := (List.getElem?_eq_some_iff.mp hz).1
          have e1 : List.length [(D, false)] = 1 := rfl
          omega
        subst hj0
        rw [Nat.sub_self] at hz
        cases hz
        refine ⟨⟨k, cl, o1, o2, by rw [o3]; exact o5⟩, d0, d1, d2, d3, d4 o5, d10, dS, ?_, dB.wk (Nat.zero_le _) (Nat.le_refl _)⟩
        exact TsN.mono (fun y' hr hs => ⟨by obtain ⟨i, i1, i2, i3⟩ := hr; exact ⟨i, Nat.zero_le _, i2, i3⟩, hs, rfl, rfl, rfl⟩) _ _ dT
end TEXTE

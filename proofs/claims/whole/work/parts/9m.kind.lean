/-! THE REFERENCE'S READER: kind() -/
/-- it is among them -/
def twO (o : Option Nat) (ps : List Nat) : Bool := match o with
  | some k => decide (k ∈ ps)
  | none => false
def oEp (q : Nat) (o : Option Nat) (ps : List Nat) : Evs := match o with
  | none => [(q, 3)]
  | some k => if k ∈ ps then [(q, 5)] else []
def oOp (o : Option Nat) (ps : List Nat) : Bool := match o with
  | none => false
  | some k => decide (k ∉ ps)
def oNp (o : Option Nat) (ps : List Nat) : List Nat := match o with
  | none => ps
  | some k => if k ∈ ps then ps else ps ++ [k]
def oE3 (q : Nat) (o : Option Nat) (es : Evs) : Evs := match o with
  | none => es ++ [(q, 3)]
  | some _ => es
theorem pa_len {t : Nat → Int32} {n : Nat} {env : Env} : ∀ f p es ps g p' es' ps' g', 2 ≤ tyS t n p → pPa t n env f p es ps g = .inr (p', es', ps', g') → es'.length + p ≤ es.length + p'
  | 0, p, es, ps, g, p', es', ps', g', _, h => by cases h
  | f + 1, p, es, ps, g, p', es', ps', g', hp, h => by
    rw [pPa] at h
    have hn := ty_nx (t := t) (n := n) (p := p) hp
    have hl : (paE t n env (nxS t n p) ps).length ≤ 1 := by
      unfold paE
      split
      · exact Nat.le_refl _
      · exact ife_len _ _
    split at h
    · rename_i hy
      have hn2 := ty_nx (t := t) (n := n) (p := nxS t n p) (by omega)
      split at h
      · rename_i hy2
        have g2 := pa_len f _ _ _ _ _ _ _ _ (by omega) h
        rw [List.length_append] at g2
        omega
      · cases h
        rw [List.length_append]
        omega
    · cases h
section KINDD
variable {Z : zT} {d : Nat} {t : Nat → Int32} {n : Nat} {B : Int32 × Int32 × Rf} {σ0 σ τ υ : Sg} {m0 : Nat} {ks : List Knd} {cs : List Cal} {ls : List (List Int32)} {w : Int} {p p' c : Nat} {vs : List (Nat × Nat)} {es es' E : Evs} {m : Nat} {lst : List Nat} {cap u u' : Nat} {K : kS} {A : Nat}
/-- a Kind that is being read -/
def KdQ (τ : Sg) (A : Nat) (nm : List Int32) (ps : List Nat) (kn : Nat) : Prop := NmIs τ (A + 1) nm ∧ τ.i A 3 = Int32.ofNat ps.length ∧ (∀ i p, ps[i]? = some p → τ.i (A + 3) i = Int32.ofNat p) ∧ ps.Nodup ∧ ∀ p ∈ ps, p < kn
theorem KdQ.mono {nm : List Int32} {ps : List Nat} {kn : Nat} (h : KdQ τ A nm ps kn) (hi : ∀ a, A ≤ a → a < A + 4 → υ.i a = τ.i a) : KdQ υ A nm ps kn := by
  refine ⟨h.1.mono (hi _ (by omega) (by omega)) (hi _ (by omega) (by omega)), by rw [hi _ (by omega) (by omega)]; exact h.2.1, fun i p q => by rw [hi _ (by omega) (by omega)]; exact h.2.2.1 i p q, h.2.2.2⟩
theorem KdQ.fr {nm : List Int32} {ps : List Nat} {kn nv : Nat} (h : KdQ τ A nm ps kn) (D : DS t n B σ0 m0 ks cs ls w m lst cap u τ p es) (hA : 9 ≤ A ∧ A + 8 < 3365 ∧ (A + 8 < 54 ∨ 54 < A)) (G : RF 5 nv τ υ lst cap lst cap (fun _ => False)) : KdQ υ A nm ps kn := h.mono fun a a1 a2 => D.lo G (by omega) (by omega) (by omega)
theorem KdQ.ln {nm : List Int32} {ps : List Nat} {kn : Nat} (h : KdQ τ A nm ps kn) : ps.length ≤ kn := nd_len kn ps h.2.2.2.1 h.2.2.2.2
/-- is it there twice -/
theorem kd_153 {l1 l2 l5 l6 : Int32} {o : Option Nat} {ps : List Nat} (F : FX ΦR τ.sh τ.r) (pA : sh0R[A]? = some (Sh.obj 18)) (ho : ∀ k, o = some k → k < 24) (e3 : τ.i A 3 = Int32.ofNat ps.length) (hpl : ps.length ≤ 24) (hp24 : ∀ p ∈ ps, p < 24) (hpa : ∀ i p, ps[i]? = some p → τ.i (A + 3) i = Int32.ofNat p)
    (hend : (Int32.ofInt (idx o) < 0 → B_X23_kind_211 Z (d + 1) τ l1 l2 A l5 (Int32.ofInt (idx o)) (if twO o ps = true then 1 else 0) K) ∧ (¬ Int32.ofInt (idx o) < 0 → ((if twO o ps = true then (1 : Int32) else 0) = 0 → B_X23_kind_211 Z (d + 1) τ l1 l2 A l5 (Int32.ofInt (idx o)) (if twO o ps = true then 1 else 0) K) ∧ (¬ (if twO o ps = true then (1 : Int32) else 0) = 0 → B_X23_breaks_0 Z d τ 5 l6 (yN K fun τ1 => B_X23_kind_211 Z (d + 1) τ1 l1 l2 A l5 (Int32.ofInt (idx o)) (if twO o ps = true then 1 else 0) K)))) :
    ∀ x j (b : Bool), ps.length - j = x → j ≤ ps.length → (b = true ↔ ∃ i k, i < j ∧ o = some k ∧ ps[i]? = some k) → B_X23_kind_153 Z (d + 1) τ l1 l2 A l5 l6 (Int32.ofInt (idx o)) (if b = true then 1 else 0) (Int32.ofNat j) K := by
  intro x
  induction x with
  | zero =>
    intro j b hx hj hb
    have ej : j = ps.length := by omega
    have eb : b = twO o ps := by
      have : b = true ↔ twO o ps = true := by
        rw [hb]
        unfold twO
        cases o with
        | none => exact ⟨fun ⟨i, k, _, z, _⟩ => (by cases z), fun z => (by cases z)⟩
        | some k =>
          refine ⟨fun ⟨i, k', _, z, y⟩ => ?_, fun z => ?_⟩
          · cases z
            exact decide_eq_true (List.mem_of_getElem? y)
          · obtain ⟨i, hi⟩ := List.mem_iff_getElem?.mp (of_decide_eq_true z)
            have := (List.getElem?_eq_some_iff.mp hi).1
            exact ⟨i, k, by omega, rfl, hi⟩
      cases b <;> cases h2 : twO o ps
      · rfl
      · exact absurd (this.mpr h2) (by decide)
      · exact absurd (this.mp rfl) (by rw [h2]; decide)
      · rfl
    refine S_X23_kind_153 F pA ⟨fun _ => ?_, fun z => ?_⟩
    · rw [eb]
      exact hend
    · rw [e3, ej] at z
      exact absurd (Int32.le_refl _) z
  | succ x ih =>
    intro j b hx hj hb
    have hj2 : j < ps.length := by clear hb; omega
    have hx1 : ps.length - (j + 1) = x := by clear hb; omega
    obtain ⟨q, hq⟩ : ∃ q, ps[j]? = some q := ⟨_, List.getElem?_eq_getElem hj2⟩
    have hq24 := hp24 q (List.mem_of_getElem? hq)
    refine S_X23_kind_153 F pA ⟨fun z => ?_, fun _ => ⟨fun z => ?_, fun z => ⟨ib_oN (by omega) (by decide), ?_⟩⟩⟩
    · rw [e3] at z
      have := (oN_le (by omega) (by omega)).mp z
      omega
    · rw [oN_1]
      have hbt : b = true := by
        cases b
        · exact absurd rfl z
        · rfl
      refine ih (j + 1) true hx1 hj2 ⟨fun _ => ?_, fun _ => rfl⟩
      obtain ⟨i, k, h1, h2⟩ := hb.mp hbt
      exact ⟨i, k, by omega, h2⟩
    · have hbf : b = false := by
        cases b
        · rfl
        · exact absurd z (by decide)
      rw [oN_t (by omega), hpa j q hq, oN_1]
      have hnb : ¬ ∃ i k, i < j ∧ o = some k ∧ ps[i]? = some k := fun y => by
        rw [hbf] at hb
        exact absurd (hb.mpr y) (by decide)
      refine ⟨fun y => ih (j + 1) false hx1 hj2 ⟨fun y => (by cases y), fun ⟨i, k, h1, h2, h3⟩ => ?_⟩, fun y => ih (j + 1) true hx1 hj2 ⟨fun _ => ?_, fun _ => rfl⟩⟩
      · rcases Nat.lt_succ_iff_lt_or_eq.mp h1 with z2 | z2
        · exact absurd ⟨i, k, z2, h2, h3⟩ hnb
        · rw [z2, hq] at h3
          cases h3
          rw [h2] at y
          exact absurd rfl y
      · cases o with
        | none =>
          exfalso
          have e1 : (Int32.ofNat q).toInt = -1 := by rw [y]; decide
          rw [oN_i (by omega)] at e1
          omega
        | some k =>
          have hk := ho k rfl
          have : q = k := (oN_eq (by omega) (by omega)).mp y
          subst this
          exact ⟨j, q, by omega, rfl, hq⟩
/-- the parents -/
theorem kd_115 (hZ : ZK Z) (hd : 16 ≤ d) {l1 l2 : Int32} {nm : List Int32} (pA : sh0R[A]? = some (Sh.obj 18)) (hA : 9 ≤ A ∧ A + 8 < 3365 ∧ (A + 8 < 54 ∨ 54 < A)) (hf : ∀ a, A ≤ a → a < A + 9 → fre ks.length cs.length ls.length a) :
    ∀ f p es ps (g : Bool) τ, n - p < f → 2 ≤ tyS t n p → DS t n B σ m0 ks cs ls w m lst cap u τ p (E ++ es) → KdQ τ A nm ps ks.length →
    (∀ p' es' ps' g', pPa t n (enW ks cs ls w) f p es ps g = .inr (p', es', ps', g') → ∀ υ, DS t n B σ m0 ks cs ls w m lst cap u υ p' (E ++ es') → KdQ υ A nm ps' ks.length → B_X23_kind_296 Z (d + 1) υ l1 l2 A (if g' = true then 1 else 0) K) →
    (∀ q, pPa t n (enW ks cs ls w) f p es ps g = .inl q → ∀ υ a, WT n ks.length cs.length ls.length m0 σ lst m cap υ a q → K (.inr ("DispatchHouseModel$Wrong", a)) υ) → B_X23_kind_115 Z (d + 1) τ l1 l2 A (if g = true then 1 else 0) K := by
  intro f
  induction f with
  | zero => intro p es ps g τ hf0; exact absurd hf0 (Nat.not_lt_zero _)
  | succ f ih =>
    intro p es ps g τ hf0 hty D Q h1 h0
    have hk24 := D.2.1.1.2.1
    have hp : p < n := ty_pos (t := t) hty
    have hn := ty_nx (t := t) (n := n) (p := p) hty
    refine S_X23_kind_115 D.1.fx pA (D.nx hZ (by omega) hp (fun τ1 D1 G1 => ?_))
    have Q1 := Q.fr D hA G1
    show B_X23_name_0 Z d τ1 _
    rw [D1.1.cur.2.1]
    obtain ⟨q, eq⟩ : ∃ q, nxS t n p = q := ⟨_, rfl⟩
    rw [pPa, eq] at h1 h0
    rw [eq] at D1 hn ⊢
    have hqn := D1.1.pn
    refine rx_name hZ (by omega) D1.1 (fun y2 hq8 hl16 τ2 S2 G2 => ?_) (fun n2 τ2 a wr => h0 q (by rw [if_neg n2]) τ2 a (D1.wt wr))
    rw [if_pos y2] at h1 h0
    have D2 := D1.rf S2 (by omega) G2
    have Q2 := Q1.fr D1 hA G2
    have hn2 := ty_nx (t := t) (n := n) (p := q) (by omega)
    obtain ⟨o, ho⟩ : ∃ o, (enW ks cs ls w).1 (nmS t n q) = o := ⟨_, rfl⟩
    have ho2 : (enW ks cs ls w).1 (txN t q (lnS t n q)) = o := ho
    have hok : ∀ k, o = some k → k < ks.length := by
      intro k hk
      rw [hk] at ho
      have := fi_lt ho
      rw [List.length_map] at this
      exact this
    have ixx := ix_ge (o := o) (fun k hk => by have := hok k hk; omega)
    have ePE : paE t n (enW ks cs ls w) q ps = oEp q o ps := by
      rw [← ho]
      rfl
    have ePO : paO t n (enW ks cs ls w) q ps = oOp o ps := by
      rw [← ho]
      rfl
    have ePN : paN t n (enW ks cs ls w) q ps = oNp o ps := by
      rw [← ho]
      rfl
    refine rx_kind (by omega) S2 hq8 hl16 ?_
    rw [ho2]
    -- behind a parent
    have go270 : ∀ τ3, DS t n B σ m0 ks cs ls w m lst cap u τ3 (nxS t n q) (E ++ (es ++ paE t n (enW ks cs ls w) q ps)) → KdQ τ3 A nm (paN t n (enW ks cs ls w) q ps) ks.length → B_X23_kind_270 Z (d + 1) τ3 l1 l2 A (if (g && paO t n (enW ks cs ls w) q ps) = true then 1 else 0) K := by
      intro τ3 D3 Q3
      refine S_X23_kind_270 D3.1.fx pA (rx_is (y := 6) (by decide) (by omega) D3.1 (fun y6 => ⟨fun _ => ?_, fun z => absurd z (by decide)⟩) (fun n6 => ⟨fun z => absurd rfl z, fun _ => ?_⟩))
      · rw [if_pos y6] at h1 h0
        exact ih _ _ _ _ _ (by omega) (by omega) D3 Q3 h1 h0
      · rw [if_neg n6] at h1
        exact h1 _ _ _ _ rfl τ3 D3 Q3
    have go231 : ∀ (τ3 : Sg) (b : Bool), DS t n B σ m0 ks cs ls w m lst cap u τ3 (nxS t n q) (E ++ (es ++ paE t n (enW ks cs ls w) q ps)) → KdQ τ3 A nm ps ks.length → b = (g && paO t n (enW ks cs ls w) q ps) → B_X23_kind_231 Z (d + 1) τ3 l1 l2 A (Int32.ofInt (idx o)) (if twO o ps = true then 1 else 0) (if b = true then 1 else 0) K := by
      intro τ3 b D3 Q3 hb
      have hpl := Q3.ln
      refine S_X23_kind_231 D3.1.fx pA ⟨fun z => ?_, fun z => ⟨fun y => ?_, fun y => ?_⟩⟩
      · rw [hb]
        refine go270 τ3 D3 ?_
        have hon := ixx.2.mp z
        subst hon
        rw [ePN]
        exact Q3
      · cases hoo : o with
        | none => exact absurd (ixx.2.mpr hoo) z
        | some k =>
          subst hoo
          have hk := hok k rfl
          have hnk : k ∉ ps := fun x => by
            have : twO (some k) ps = true := decide_eq_true x
            rw [if_pos this] at y
            exact absurd y (by decide)
          have hlt : ps.length < ks.length := by
            have := nd_len ks.length (k :: ps) (List.nodup_cons.mpr ⟨hnk, Q3.2.2.2.1⟩) (fun z hz => (List.mem_cons.mp hz).elim (fun e => e ▸ hk) (Q3.2.2.2.2 z))
            exact this
          rw [Q3.2.1, oN_t (by omega)]
          refine ⟨ib_oN (by omega) (by decide), ?_⟩
          rw [hb]
          have e3 : (τ3.wi (A + 3) ps.length (Int32.ofInt (idx (some k)))).i A 3 = Int32.ofNat ps.length := (wi_ne (by omega)).trans Q3.2.1
          rw [e3, oN_1]
          refine go270 _ ((D3.w1 (hf _ (by omega) (by omega))).w1 (hf A (by omega) (by omega))) ?_
          rw [ePN]
          unfold oNp
          dsimp only
          rw [if_neg hnk]
          refine ⟨Q3.1.mono ?_ ?_, ?_, fun i x hx => ?_, ?_, fun x hx => ?_⟩
          · rw [wi_row (by omega), wi_row (by omega)]
          · rw [wi_row (by omega), wi_row (by omega)]
          · rw [wi_at, List.length_append]
            rfl
          · rw [wi_row (by omega)]
            by_cases hi : i < ps.length
            · rw [List.getElem?_append_left hi] at hx
              rw [wi_ne (by omega)]
              exact Q3.2.2.1 i x hx
            · rw [List.getElem?_append_right (by omega)] at hx
              have hi0 : i = ps.length := by
                have := (List.getElem?_eq_some_iff.mp hx).1
                have e1 : List.length [k] = 1 := rfl
                omega
              subst hi0
              rw [Nat.sub_self] at hx
              cases hx
              exact wi_at _ _ _ _
          · rw [List.nodup_append]
            refine ⟨Q3.2.2.2.1, List.nodup_cons.mpr ⟨List.not_mem_nil, List.nodup_nil⟩, fun a ha b hb2 => ?_⟩
            rw [List.mem_singleton] at hb2
            rw [hb2]
            exact fun e => hnk (e ▸ ha)
          · rcases List.mem_append.mp hx with z2 | z2
            · exact Q3.2.2.2.2 x z2
            · rw [List.mem_singleton] at z2
              rw [z2]
              exact hk
      · cases hoo : o with
        | none => exact absurd (ixx.2.mpr hoo) z
        | some k =>
          subst hoo
          have hnk : k ∈ ps := by
            refine Classical.byContradiction fun x => y ?_
            have : ¬ twO (some k) ps = true := fun q => x (of_decide_eq_true q)
            rw [if_neg this]
          rw [hb]
          refine go270 τ3 D3 ?_
          rw [ePN]
          unfold oNp
          dsimp only
          rw [if_pos hnk]
          exact Q3
    have go211 : ∀ τ3, DS t n B σ m0 ks cs ls w m lst cap u τ3 (nxS t n q) (E ++ (es ++ paE t n (enW ks cs ls w) q ps)) → KdQ τ3 A nm ps ks.length → B_X23_kind_211 Z (d + 1) τ3 l1 l2 A (if g = true then 1 else 0) (Int32.ofInt (idx o)) (if twO o ps = true then 1 else 0) K := by
      intro τ3 D3 Q3
      have go230 : (g && paO t n (enW ks cs ls w) q ps) = false → B_X23_kind_230 Z (d + 1) τ3 l1 l2 A (Int32.ofInt (idx o)) (if twO o ps = true then 1 else 0) K := fun hb => S_X23_kind_230 D3.1.fx pA (go231 τ3 false D3 Q3 hb.symm)
      refine S_X23_kind_211 D3.1.fx pA ⟨fun z => go230 ?_, fun z => ⟨fun y => go230 ?_, fun y => ⟨fun x => go230 ?_, fun x => go231 τ3 true D3 Q3 ?_⟩⟩⟩
      · cases g
        · rfl
        · exact absurd z (by decide)
      · rw [ePO, ixx.2.mp y]
        exact Bool.and_false g
      · cases hoo : o with
        | none => exact absurd (ixx.2.mpr hoo) y
        | some k =>
          subst hoo
          have hnk : k ∈ ps := by
            refine Classical.byContradiction fun v => x ?_
            have : ¬ twO (some k) ps = true := fun q => v (of_decide_eq_true q)
            rw [if_neg this]
          rw [ePO]
          unfold oOp
          dsimp only
          rw [decide_eq_false (fun v => v hnk), Bool.and_false]
      · cases hoo : o with
        | none => exact absurd (ixx.2.mpr hoo) y
        | some k =>
          subst hoo
          have hnk : k ∉ ps := fun v => by
            have : twO (some k) ps = true := decide_eq_true v
            rw [if_pos this] at x
            exact absurd x (by decide)
          rw [ePO]
          unfold oOp
          dsimp only
          rw [decide_eq_true hnk, Bool.and_true]
          cases g
          · exact absurd rfl z
          · rfl
    have hpl2 : ∀ {τ3 : Sg}, KdQ τ3 A nm ps ks.length → ps.length ≤ 24 ∧ ∀ x ∈ ps, x < 24 := fun Q3 => ⟨by have := Q3.ln; omega, fun x hx => by have := Q3.2.2.2.2 x hx; omega⟩
    have go153 : ∀ (τ3 : Sg) (es3 : Evs), DS t n B σ m0 ks cs ls w m lst cap u τ3 (nxS t n q) (E ++ es3) → KdQ τ3 A nm ps ks.length → es3 = oE3 q o es → B_X23_kind_153 Z (d + 1) τ3 l1 l2 A (if g = true then 1 else 0) (Int32.ofNat q) (Int32.ofInt (idx o)) 0 0 K := by
      intro τ3 es3 D3 Q3 hes
      obtain ⟨q1, q2⟩ := hpl2 Q3
      refine kd_153 D3.1.fx pA (fun k hk => by have := hok k hk; omega) Q3.2.1 q1 q2 Q3.2.2.1 ⟨fun z => ?_, fun z => ⟨fun y => ?_, fun y => ?_⟩⟩ ps.length 0 false (by omega) (Nat.zero_le _) ⟨fun z => (by cases z), fun ⟨i, k, hi, _⟩ => absurd hi (Nat.not_lt_zero _)⟩
      · have hon := ixx.2.mp z
        subst hon
        refine go211 τ3 ?_ Q3
        rw [ePE]
        rw [hes] at D3
        exact D3
      · cases hoo : o with
        | none => exact absurd (ixx.2.mpr hoo) z
        | some k =>
          subst hoo
          have hnk : k ∉ ps := fun x => by
            have : twO (some k) ps = true := decide_eq_true x
            rw [if_pos this] at y
            exact absurd y (by decide)
          refine go211 τ3 ?_ Q3
          rw [ePE]
          unfold oEp
          dsimp only
          rw [if_neg hnk, List.append_nil]
          rw [hes] at D3
          exact D3
      · cases hoo : o with
        | none => exact absurd (ixx.2.mpr hoo) z
        | some k =>
          subst hoo
          have hnk : k ∈ ps := by
            refine Classical.byContradiction fun x => y ?_
            have : ¬ twO (some k) ps = true := fun q => x (of_decide_eq_true q)
            rw [if_neg this]
          refine D3.brk (r := 5) (by omega) (by omega) (by decide) (fun τ4 D4 G4 => go211 τ4 ?_ (Q3.fr D3 hA G4))
          rw [ePE]
          unfold oEp
          dsimp only
          rw [if_pos hnk, ← List.append_assoc]
          rw [hes] at D4
          exact D4
    refine ⟨fun z => go153 τ2 es D2 Q2 ?_, fun z => D2.brk (r := 3) (by omega) (by omega) (by decide) (fun τ3 D3 G3 => go153 τ3 (es ++ [(q, 3)]) (by rw [← List.append_assoc]; exact D3) (Q2.fr D2 hA G3) ?_)⟩
    · cases hoo : o with
      | none =>
        rw [hoo] at z
        exact absurd z (by decide)
      | some k => rfl
    · cases hoo : o with
      | none => rfl
      | some k => exact absurd (ixx.1.mpr (by rw [hoo]; rfl)) z
end KINDD

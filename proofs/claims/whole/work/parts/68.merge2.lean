/-! THE REFERENCE'S ROW BY WAY 0: taking the free heads, again and again -/
/-- y goes from all heads -/
def frD (LL : List (List Nat)) (fr : Nat → Nat) (y : Nat) : Nat → Nat := fun j => match LL[j]? with
  | some l => if l[fr j]? = some y then fr j + 1 else fr j
  | none => fr j
theorem frD_at {LL : List (List Nat)} {fr : Nat → Nat} {y j : Nat} {l : List Nat} (h : LL[j]? = some l) : frD LL fr y j = if l[fr j]? = some y then fr j + 1 else fr j := by
  unfold frD
  rw [h]
/-- the same but for the row at R0 and the heads -/
def Fr2 (R : Nat) (σ τ : Sg) : Prop := τ.sh = σ.sh ∧ τ.l = σ.l ∧ τ.r = σ.r ∧ ∀ a, a ≠ R → a ≠ 35 → τ.i a = σ.i a
theorem Fr2.refl (R : Nat) (σ : Sg) : Fr2 R σ σ := ⟨rfl, rfl, rfl, fun _ _ _ => rfl⟩
theorem Fr2.trans {R : Nat} {σ τ υ : Sg} (h : Fr2 R σ τ) (g : Fr2 R τ υ) : Fr2 R σ υ := ⟨g.1.trans h.1, g.2.1.trans h.2.1, g.2.2.1.trans h.2.2.1, fun a h1 h2 => (g.2.2.2 a h1 h2).trans (h.2.2.2 a h1 h2)⟩
theorem Fr2.wR {R : Nat} {σ τ : Sg} (h : Fr2 R σ τ) (k : Nat) (v : Int32) : Fr2 R σ (τ.wi R k v) := ⟨h.1, h.2.1, h.2.2.1, fun a h1 h2 => (up_row h1).trans (h.2.2.2 a h1 h2)⟩
theorem Fr2.w35 {R : Nat} {σ τ : Sg} (h : Fr2 R σ τ) (k : Nat) (v : Int32) : Fr2 R σ (τ.wi 35 k v) := ⟨h.1, h.2.1, h.2.2.1, fun a h1 h2 => (up_row h2).trans (h.2.2.2 a h1 h2)⟩
theorem Fr2.fx {R : Nat} {σ τ : Sg} {Φ : Fix} (h : Fr2 R σ τ) (F : FX Φ σ.sh σ.r) : FX Φ τ.sh τ.r := by
  rw [h.1, h.2.2.1]
  exact F
theorem MgIs.fr {σ τ : Sg} {LL : List (List Nat)} {fr : Nat → Nat} (h : MgIs σ LL fr) (hl : LL.length ≤ 25) (g : ∀ a, a < 100 → τ.i a = σ.i a) : MgIs τ LL fr := by
  intro j l hj
  obtain ⟨e1, e2, e3, e4, e5, e6⟩ := h j l hj
  have hjl := (List.getElem?_eq_some_iff.mp hj).1
  refine ⟨by rw [g 35 (by omega)]; exact e1, by rw [g 36 (by omega)]; exact e2, e3, e4, e5, fun i y z => by rw [g _ (by omega)]; exact e6 i y z⟩
section MERGE2
variable {Z : zT} {d y rn k : Nat} {K : kS} {LL : List (List Nat)} {fr : Nat → Nat} {l4 : Int32}
theorem mr_314 {σ : Sg} (F0 : FX ΦR σ.sh σ.r) {R : Nat} (hR : 100 ≤ R) {l2 : Nat} (p2 : sh0R[l2]? = some (Sh.obj 18)) (hL : LL.length = rn + 1) (hr : rn < 25) (hy : y < 24) (hK : ∀ υ, Fr2 R σ υ → υ.i R = σ.i R → MgIs υ LL (frD LL fr y) → B_X23_makeRows_184 Z (d + 2) υ l2 (Int32.ofNat rn) l4 K) : ∀ m j (τ : Sg), LL.length - j = m → j ≤ LL.length → Fr2 R σ τ → τ.i R = σ.i R → MgIs τ LL (fun j' => if j' < j then frD LL fr y j' else fr j') → B_X23_makeRows_314 Z (d + 2) τ l2 (Int32.ofNat rn) l4 (Int32.ofNat y) (Int32.ofNat j) K := by
  intro m
  induction m with
  | zero =>
    intro j τ hm hj hF hRR hM
    have e : j = rn + 1 := by omega
    subst e
    refine S_X23_makeRows_314 (d := d + 1) (hF.fx F0) p2 ⟨fun _ => hK τ hF hRR ?_, fun q => absurd ?_ q⟩
    · intro j l hl
      have := hM j l hl
      have hjl := (List.getElem?_eq_some_iff.mp hl).1
      simp only [if_pos (show j < rn + 1 by omega)] at this
      exact this
    · rw [oN_lt (by omega) (by omega)]
      omega
  | succ m ih =>
    intro j τ hm hj hF hRR hM
    have F := hF.fx F0
    have hlt : j < LL.length := by omega
    have hl : LL[j]? = some LL[j] := List.getElem?_eq_getElem hlt
    have hMj := hM j _ hl
    simp only [if_neg (Nat.lt_irrefl j)] at hMj
    obtain ⟨e1, e2, e3, e4, e5, e6⟩ := hMj
    have ej : (Int32.ofNat j).toNatClampNeg = j := oN_t (by omega)
    have bj : ib (Int32.ofNat j) 25 := ib_oN (by omega) (by decide)
    have same : (frD LL fr y j = fr j) → B_X23_makeRows_314 Z (d + 2) τ l2 (Int32.ofNat rn) l4 (Int32.ofNat y) (Int32.ofNat j + 1) K := by
      intro es
      rw [oN_1]
      refine ih (j + 1) τ (by omega) (by omega) hF hRR fun j' l hl' => ?_
      have := hM j' l hl'
      by_cases g : j' < j
      · simp only [if_pos g] at this
        simp only [if_pos (show j' < j + 1 by omega)]
        exact this
      · by_cases g2 : j' = j
        · subst g2
          simp only [if_neg (Nat.lt_irrefl j')] at this
          simp only [if_pos (Nat.lt_succ_self j'), es]
          exact this
        · simp only [if_neg g] at this
          simp only [if_neg (show ¬ j' < j + 1 by omega)]
          exact this
    refine S_X23_makeRows_314 (d := d + 1) F p2 ⟨fun q => ?_, fun _ => ⟨bj, bj, fun q => ?_, fun q => ?_⟩⟩
    · exfalso
      rw [oN_lt (by omega) (by omega)] at q
      omega
    · rw [ej, e1, e2, oN_le (by omega) (by omega)] at q
      refine same ?_
      rw [frD_at hl, if_neg (fun z => by have := (List.getElem?_eq_some_iff.mp z).1; omega)]
    · rw [ej, e1, e2, oN_le (by omega) (by omega)] at q
      have hlt2 : fr j < LL[j].length := by omega
      have ey := e5 _ (List.getElem_mem hlt2)
      have er : τ.i (9 + 1 + (Int32.ofNat j).toNatClampNeg) (τ.i 35 (Int32.ofNat j).toNatClampNeg).toNatClampNeg = Int32.ofNat LL[j][fr j] := by
        rw [ej, e1, oN_t (by omega)]
        exact e6 _ _ (List.getElem?_eq_getElem hlt2)
      have bf : ib (τ.i 35 (Int32.ofNat j).toNatClampNeg) 24 := by
        rw [ej, e1]
        exact ib_oN (by omega) (by decide)
      refine ⟨bj, bj, bf, fun z => ?_, fun z => ⟨bj, bj, ?_⟩⟩
      · rw [er, oN_eq (by omega) (by omega)] at z
        refine same ?_
        rw [frD_at hl, if_neg (fun q2 => by rw [List.getElem?_eq_getElem hlt2] at q2; exact z (Option.some.inj q2))]
      · rw [er, oN_eq (by omega) (by omega)] at z
        rw [ej, e1, oN_1, oN_1]
        have ed : frD LL fr y j = fr j + 1 := by rw [frD_at hl, if_pos (by rw [List.getElem?_eq_getElem hlt2, z])]
        refine ih (j + 1) _ (by omega) (by omega) (hF.w35 _ _) ?_ fun j' l hl' => ?_
        · rw [← hRR]
          exact up_row (by omega)
        · have hm' := hM j' l hl'
          have hjl := (List.getElem?_eq_some_iff.mp hl').1
          have k36 : (τ.wi 35 j (Int32.ofNat (fr j + 1))).i 36 = τ.i 36 := up_row (f := τ.i) (a := 35) (k := j) (b := 36) (v := Int32.ofNat (fr j + 1)) (by decide)
          have kmg : (τ.wi 35 j (Int32.ofNat (fr j + 1))).i (9 + 1 + j') = τ.i (9 + 1 + j') := up_row (by omega)
          rw [k36, kmg, wi_i]
          by_cases g2 : j' = j
          · subst g2
            rw [hl] at hl'
            cases hl'
            simp only [if_neg (Nat.lt_irrefl j')] at hm'
            simp only [if_pos (Nat.lt_succ_self j'), ed, and_self, if_true]
            exact ⟨trivial, hm'.2.1, by omega, hm'.2.2.2.1, hm'.2.2.2.2.1, hm'.2.2.2.2.2⟩
          · rw [if_neg (fun q2 => g2 q2.2)]
            by_cases g : j' < j
            · simp only [if_pos g] at hm'
              simp only [if_pos (show j' < j + 1 by omega)]
              exact hm'
            · simp only [if_neg g] at hm'
              simp only [if_neg (show ¬ j' < j + 1 by omega)]
              exact hm'
/-- what the merge gives: the kinds in their order, and whether all lists are empty then -/
def MgR (LL : List (List Nat)) : Nat → (Nat → Nat) → List Nat → Bool → Prop
  | 0, _, _, _ => False
  | f + 1, fr, r, b => (∃ j y, Can LL fr j y ∧ (∀ j' y', j' < j → ¬ Can LL fr j' y') ∧ ∃ r', r = y :: r' ∧ MgR LL f (frD LL fr y) r' b) ∨ ((∀ j y, ¬ Can LL fr j y) ∧ r = [] ∧ (b = true ↔ ∀ j l, LL[j]? = some l → fr j = l.length))
theorem mr_184 {σ : Sg} (F0 : FX ΦR σ.sh σ.r) (hk24 : k ≤ 23) (hL : LL.length = rn + 1) (hr : rn < 25) (hLk : ∀ l ∈ LL, ∀ z ∈ l, z < k) : ∀ m (L : List Nat) (fr : Nat → Nat) (τ : Sg), k - L.length = m → Fr2 (kdA k + 4 + 1 + 0) σ τ → MgIs τ LL fr → L.Nodup → (∀ z ∈ L, z < k) → (∀ z ∈ L, ∀ j l i, LL[j]? = some l → fr j ≤ i → l[i]? ≠ some z) → RowIs τ (kdA k + 4 + 1 + 0) L → (∀ υ r b, Fr2 (kdA k + 4 + 1 + 0) σ υ → υ.i (kdA k + 4 + 1 + 0) 0 = τ.i (kdA k + 4 + 1 + 0) 0 → MgR LL (m + 1) fr r b → RowIs υ (kdA k + 4 + 1 + 0) (L ++ r) → (L ++ r).Nodup → (∀ z ∈ L ++ r, z < k) → K (.inl (some (.int (if b = true then 1 else 0)))) (υ.wi (kdA k + 8) 0 (Int32.ofNat (1 + (L ++ r).length)))) → B_X23_makeRows_184 Z (d + 2) τ (kdA k) (Int32.ofNat rn) (Int32.ofNat (1 + L.length)) K := by
  intro m
  induction m with
  | zero =>
    intro L fr τ hm hF hM hn hb hgone hR hK
    have F := hF.fx F0
    have p1 := kd_p (k := k) (by omega)
    have hLl := nd_len k L hn hb
    refine S_X23_makeRows_184 (d := d + 1) F p1 (mr_193 F p1 hM hL hr (fun j y hj hy hc _ => ?_) (fun b hb01 hbi hno => ?_) LL.length 0 0 rfl (Nat.zero_le _) (Or.inl rfl) ⟨fun _ j' l a => absurd a (Nat.not_lt_zero _), fun _ => rfl⟩ fun j' y' a => absurd a (Nat.not_lt_zero _))
    · exfalso
      obtain ⟨⟨l, a1, a2⟩, a3⟩ := hc
      have hyL : y ∉ L := fun z => hgone y z j l (fr j) a1 (Nat.le_refl _) a2
      have hyk : y < k := hLk l (List.mem_of_getElem? a1) y (List.mem_of_getElem? a2)
      have := nd_len k (y :: L) (List.nodup_cons.mpr ⟨hyL, hn⟩) fun z hz => by
        rcases List.mem_cons.mp hz with q | q
        · rw [q]
          exact hyk
        · exact hb z q
      simp only [List.length_cons] at this
      omega
    · refine S_X23_makeRows_273 (d := d + 1) F p1 ⟨fun z => absurd z (by decide), fun _ => ⟨fun z => ?_, fun z => ?_⟩⟩
      · have := hK τ [] false hF rfl (Or.inr ⟨hno, rfl, ⟨fun y => absurd y (by decide), fun y => absurd (hbi.mpr y) z⟩⟩) (by rw [List.append_nil]; exact hR) (by rw [List.append_nil]; exact hn) (by rw [List.append_nil]; exact hb)
        rw [List.append_nil] at this
        exact this
      · have := hK τ [] true hF rfl (Or.inr ⟨hno, rfl, ⟨fun _ => hbi.mp z, fun _ => rfl⟩⟩) (by rw [List.append_nil]; exact hR) (by rw [List.append_nil]; exact hn) (by rw [List.append_nil]; exact hb)
        rw [List.append_nil] at this
        exact this
  | succ m ih =>
    intro L fr τ hm hF hM hn hb hgone hR hK
    have F := hF.fx F0
    have p1 := kd_p (k := k) (by omega)
    have hLl := nd_len k L hn hb
    refine S_X23_makeRows_184 (d := d + 1) F p1 (mr_193 F p1 hM hL hr (fun j y hj hy hc hfst => ?_) (fun b hb01 hbi hno => ?_) LL.length 0 0 rfl (Nat.zero_le _) (Or.inl rfl) ⟨fun _ j' l a => absurd a (Nat.not_lt_zero _), fun _ => rfl⟩ fun j' y' a => absurd a (Nat.not_lt_zero _))
    · obtain ⟨⟨l, a1, a2⟩, a3⟩ := id hc
      have hyL : y ∉ L := fun z => hgone y z j l (fr j) a1 (Nat.le_refl _) a2
      have hyk : y < k := hLk l (List.mem_of_getElem? a1) y (List.mem_of_getElem? a2)
      have hn2 : (L ++ [y]).Nodup := List.nodup_append.mpr ⟨hn, List.nodup_cons.mpr ⟨List.not_mem_nil, List.nodup_nil⟩, fun a ha b hb2 e => by
        rw [List.mem_singleton.mp hb2] at e
        exact hyL (e ▸ ha)⟩
      have hb2 : ∀ z ∈ L ++ [y], z < k := fun z hz => by
        rcases List.mem_append.mp hz with q | q
        · exact hb z q
        · rw [List.mem_singleton.mp q]
          exact hyk
      refine S_X23_makeRows_273 (d := d + 1) F p1 ⟨fun _ => ⟨ib_oN (by omega) (by decide), ?_⟩, fun z => absurd ?_ z⟩
      · rw [oN_t (by omega), oN_1]
        have hF1 := hF.wR (1 + L.length) (Int32.ofNat y)
        refine mr_314 (fr := fr) (hF1.fx F0) (R := kdA k + 4 + 1 + 0) (by show 100 ≤ 2193 + 9 * k + 4 + 1 + 0; omega) p1 hL hr hy (fun υ g1 g2 g3 => ?_) LL.length 0 _ rfl (Nat.zero_le _) (Fr2.refl _ _) rfl ?_
        · have := ih (L ++ [y]) (frD LL fr y) υ (by rw [List.length_append]; simp only [List.length_cons, List.length_nil]; omega) (hF1.trans g1) g3 hn2 hb2 ?_ ?_ ?_
          · rw [List.length_append] at this
            exact this
          · intro z hz j' l' i h1 h2 h3
            rw [frD_at h1] at h2
            rcases List.mem_append.mp hz with q | q
            · refine hgone z q j' l' i h1 ?_ h3
              split at h2 <;> omega
            · have q := List.mem_singleton.mp q
              subst q
              split at h2
              · exact a3 ⟨j', l', i, Nat.zero_le _, h1, h2, h3⟩
              · rename_i q2
                by_cases q3 : i = fr j'
                · rw [q3] at h3
                  exact q2 h3
                · exact a3 ⟨j', l', i, Nat.zero_le _, h1, by omega, h3⟩
          · intro i z hz
            rw [g2, wi_i]
            by_cases g : i < L.length
            · rw [List.getElem?_append_left g] at hz
              rw [if_neg (by omega)]
              exact hR i z hz
            · rw [List.getElem?_append_right (by omega)] at hz
              have g4 : i = L.length := by
                have := (List.getElem?_eq_some_iff.mp hz).1
                simp only [List.length_cons, List.length_nil] at this
                omega
              rw [if_pos ⟨rfl, by omega⟩]
              rw [g4, Nat.sub_self] at hz
              rw [← Option.some.inj hz]
          · intro υ2 r b f1 f2 f3 f4 f5 f6
            have e0 : υ.i (kdA k + 4 + 1 + 0) 0 = τ.i (kdA k + 4 + 1 + 0) 0 := by
              rw [g2, wi_i, if_neg (by omega)]
            have := hK υ2 (y :: r) b f1 (f2.trans e0) (Or.inl ⟨j, y, hc, hfst, r, rfl, f3⟩)
            rw [show L ++ [y] ++ r = L ++ y :: r from by rw [List.append_assoc]; rfl] at f4 f5 f6 ⊢
            exact this f4 f5 f6
        · have := hM.fr (τ := τ.wi (kdA k + 4 + 1 + 0) (1 + L.length) (Int32.ofNat y)) (by omega) (fun a ha => up_row (by show a ≠ 2193 + 9 * k + 4 + 1 + 0; omega))
          simp only [Nat.not_lt_zero, if_false]
          exact this
      · rw [show (0 : Int32) = Int32.ofNat 0 from rfl, oN_le (by omega) (by omega)]
        exact Nat.zero_le _
    · refine S_X23_makeRows_273 (d := d + 1) F p1 ⟨fun z => absurd z (by decide), fun _ => ⟨fun z => ?_, fun z => ?_⟩⟩
      · have := hK τ [] false hF rfl (Or.inr ⟨hno, rfl, ⟨fun y => absurd y (by decide), fun y => absurd (hbi.mpr y) z⟩⟩) (by rw [List.append_nil]; exact hR) (by rw [List.append_nil]; exact hn) (by rw [List.append_nil]; exact hb)
        rw [List.append_nil] at this
        exact this
      · have := hK τ [] true hF rfl (Or.inr ⟨hno, rfl, ⟨fun _ => hbi.mp z, fun _ => rfl⟩⟩) (by rw [List.append_nil]; exact hR) (by rw [List.append_nil]; exact hn) (by rw [List.append_nil]; exact hb)
        rw [List.append_nil] at this
        exact this
end MERGE2

/-! THE REFERENCE'S ROWS BY WAYS 1 AND 2: joined() -/
theorem oN_m1 (k : Nat) : Int32.ofNat (k + 1) + (-1) = Int32.ofNat k := by
  rw [← oN_1, Int32.add_assoc]
  exact Int32.add_zero _
/-- the kinds behind the first in the row at R -/
def RowIs (τ : Sg) (R : Nat) (L : List Nat) : Prop := ∀ i y, L[i]? = some y → τ.i R (1 + i) = Int32.ofNat y
/-- the same but for the row at R -/
def FrR (R : Nat) (σ τ : Sg) : Prop := τ.sh = σ.sh ∧ τ.l = σ.l ∧ τ.r = σ.r ∧ ∀ a, a ≠ R → τ.i a = σ.i a
theorem FrR.refl (R : Nat) (σ : Sg) : FrR R σ σ := ⟨rfl, rfl, rfl, fun _ _ => rfl⟩
theorem FrR.wi {R : Nat} {σ τ : Sg} (h : FrR R σ τ) (k : Nat) (v : Int32) : FrR R σ (τ.wi R k v) := ⟨h.1, h.2.1, h.2.2.1, fun a ha => (up_row ha).trans (h.2.2.2 a ha)⟩
theorem FrR.fx {R : Nat} {σ τ : Sg} {Φ : Fix} (h : FrR R σ τ) (F : FX Φ σ.sh σ.r) : FX Φ τ.sh τ.r := by
  rw [h.1, h.2.2.1]
  exact F
/-- where y comes first in L, or L's end -/
def Pos (L : List Nat) (y pos : Nat) : Prop := pos ≤ L.length ∧ (∀ i, i < pos → L[i]? ≠ some y) ∧ (pos < L.length → L[pos]? = some y)
theorem Pos.end {L : List Nat} {y : Nat} (h : Pos L y L.length) : y ∉ L := by
  intro z
  obtain ⟨i, hi, e⟩ := List.mem_iff_getElem.mp z
  exact h.2.1 i hi (by rw [List.getElem?_eq_getElem hi, e])
/-- a kind comes into a row by a way -/
def Jn (w : Int32) (L : List Nat) (y : Nat) (L' : List Nat) : Prop := (y ∉ L ∧ L' = L ++ [y]) ∨ (y ∈ L ∧ w = 1 ∧ L' = L) ∨ (w ≠ 1 ∧ ∃ pos, pos < L.length ∧ Pos L y pos ∧ L' = L.eraseIdx pos ++ [y])
section JOIN
variable {Z : zT} {d l1 R l7 : Nat} {l3 l6 l8 : Int32} {K : kS}
theorem jn_72 {τ : Sg} (F : FX ΦR τ.sh τ.r) (p1 : sh0R[l1]? = some (Sh.obj 18)) (p4 : sh0R[R]? = some (Sh.arr 0 24)) (p7 : sh0R[l7]? = some (Sh.obj 18)) {L : List Nat} {y : Nat} (hR : RowIs τ R L) (hL : ∀ z ∈ L, z < 24) (hl : L.length ≤ 23) (hy : y < 24) (hk : ∀ pos, Pos L y pos → B_X23_joined_95 Z (d + 1) τ l1 l3 R (Int32.ofNat (1 + L.length)) l6 l7 l8 (Int32.ofNat y) (Int32.ofNat (1 + pos)) K) : ∀ m k, L.length - k = m → k ≤ L.length → (∀ i, i < k → L[i]? ≠ some y) → B_X23_joined_72 Z (d + 1) τ l1 l3 R (Int32.ofNat (1 + L.length)) l6 l7 l8 (Int32.ofNat y) (Int32.ofNat (1 + k)) K
  | 0, k, hm, hkl, hi => by
    have e : k = L.length := by omega
    subst e
    exact S_X23_joined_72 F p1 p4 p7 ⟨fun _ => hk _ ⟨Nat.le_refl _, hi, fun z => absurd z (Nat.lt_irrefl _)⟩, fun q => absurd (Int32.le_refl _) q⟩
  | m + 1, k, hm, hkl, hi => by
    have hlt : k < L.length := by omega
    have e1 : L[k]? = some L[k] := List.getElem?_eq_getElem hlt
    have e2 : τ.i R (Int32.ofNat (1 + k)).toNatClampNeg = Int32.ofNat L[k] := by
      rw [oN_t (by omega)]
      exact hR k _ e1
    have hz : L[k] < 24 := hL _ (List.getElem_mem hlt)
    refine S_X23_joined_72 F p1 p4 p7 ⟨fun q => ?_, fun _ => ⟨ib_oN (by omega) (by decide), fun q => ?_, fun q => ?_⟩⟩
    · exfalso
      rw [oN_le (by omega) (by omega)] at q
      omega
    · rw [e2, oN_eq (by omega) (by omega)] at q
      exact hk k ⟨hkl, hi, fun _ => by rw [e1, q]⟩
    · rw [e2, oN_eq (by omega) (by omega)] at q
      rw [oN_1, Nat.add_assoc]
      refine jn_72 F p1 p4 p7 hR hL hl hy hk m (k + 1) (by omega) (by omega) fun i hik z => ?_
      by_cases g : i < k
      · exact hi i g z
      · rw [show i = k by omega, e1] at z
        exact q (Option.some.inj z)
/-- the shift -/
theorem jn_121 {τ : Sg} (p1 : sh0R[l1]? = some (Sh.obj 18)) (p4 : sh0R[R]? = some (Sh.arr 0 24)) (p7 : sh0R[l7]? = some (Sh.obj 18)) {L : List Nat} {y pos : Nat} (F0 : FX ΦR τ.sh τ.r) (hl : L.length ≤ 23) (hp : pos < L.length) (hk : ∀ υ, FrR R τ υ → υ.i R 0 = τ.i R 0 → RowIs υ R (L.eraseIdx pos ++ [y]) → B_X23_joined_45 Z (d + 1) υ l1 l3 R (Int32.ofNat (1 + L.length)) l6 l7 (l8 + 1) K) : ∀ m h υ, L.length - h = m → pos ≤ h → h < L.length → FrR R τ υ → υ.i R 0 = τ.i R 0 → (∀ i z, (if pos ≤ i ∧ i < h then L[i + 1]? else L[i]?) = some z → υ.i R (1 + i) = Int32.ofNat z) → B_X23_joined_121 Z (d + 1) υ l1 l3 R (Int32.ofNat (1 + L.length)) l6 l7 l8 (Int32.ofNat y) (Int32.ofNat (1 + h)) K
  | 0, h, υ, hm, h1, h2, hF, h0, hI => by omega
  | m + 1, h, υ, hm, h1, h2, hF, h0, hI => by
    have F := hF.fx F0
    refine S_X23_joined_121 F p1 p4 p7 ⟨fun q => ?_, fun q => ?_⟩
    · rw [oN_1, oN_le (by omega) (by omega)] at q
      have e : L.length = h + 1 := by omega
      have en : Int32.ofNat (1 + L.length) + (-1) = Int32.ofNat L.length := by rw [Nat.add_comm, oN_m1]
      rw [en, oN_t (by omega), oN_1, Nat.add_comm L.length 1]
      refine ⟨ib_oN (by omega) (by decide), hk _ (hF.wi _ _) ?_ fun i z hz => ?_⟩
      · rw [wi_i, if_neg (by omega), h0]
      · rw [wi_i]
        by_cases g : i < L.length - 1
        · rw [if_neg (by omega)]
          rw [List.getElem?_append_left (by rw [List.length_eraseIdx_of_lt hp]; exact g), List.getElem?_eraseIdx] at hz
          refine hI i z ?_
          by_cases g2 : i < pos
          · rw [if_pos g2] at hz
            rw [if_neg (by omega)]
            exact hz
          · rw [if_neg g2] at hz
            rw [if_pos (by omega)]
            exact hz
        · rw [List.getElem?_append_right (by rw [List.length_eraseIdx_of_lt hp]; omega), List.length_eraseIdx_of_lt hp] at hz
          have g3 : i = L.length - 1 := by
            have := (List.getElem?_eq_some_iff.mp hz).1
            simp only [List.length_cons, List.length_nil] at this
            omega
          rw [if_pos (by omega)]
          rw [g3, Nat.sub_self] at hz
          rw [← Option.some.inj hz]
    · rw [oN_1, oN_le (by omega) (by omega)] at q
      rw [oN_1, oN_t (by omega), oN_t (by omega), Nat.add_assoc]
      refine ⟨ib_oN (by omega) (by decide), ib_oN (by omega) (by decide), ?_⟩
      refine jn_121 p1 p4 p7 F0 hl hp hk m (h + 1) _ (by omega) (by omega) (by omega) (hF.wi _ _) ?_ fun i z hz => ?_
      · rw [wi_i, if_neg (by omega), h0]
      · rw [wi_i]
        by_cases g : i = h
        · subst g
          rw [if_pos ⟨rfl, rfl⟩]
          rw [if_pos (by omega)] at hz
          refine hI (i + 1) z ?_
          rw [if_neg (by omega)]
          exact hz
        · rw [if_neg (by omega)]
          refine hI i z ?_
          by_cases g2 : pos ≤ i ∧ i < h
          · rw [if_pos g2]
            rw [if_pos (by omega)] at hz
            exact hz
          · rw [if_neg g2]
            rw [if_neg (by omega)] at hz
            exact hz
/-- one kind comes in -/
theorem jn_one {τ : Sg} (F : FX ΦR τ.sh τ.r) (p1 : sh0R[l1]? = some (Sh.obj 18)) (p4 : sh0R[R]? = some (Sh.arr 0 24)) (p7 : sh0R[l7]? = some (Sh.obj 18)) {L : List Nat} {y : Nat} (hR : RowIs τ R L) (hL : ∀ z ∈ L, z < 24) (hl : L.length ≤ 23) (hy : y < 24) (hroom : y ∉ L → L.length < 23) (hk : ∀ υ L', FrR R τ υ → υ.i R 0 = τ.i R 0 → Jn l3 L y L' → RowIs υ R L' → B_X23_joined_45 Z (d + 1) υ l1 l3 R (Int32.ofNat (1 + L'.length)) l6 l7 (l8 + 1) K) : B_X23_joined_72 Z (d + 1) τ l1 l3 R (Int32.ofNat (1 + L.length)) l6 l7 l8 (Int32.ofNat y) 1 K := by
  refine jn_72 F p1 p4 p7 hR hL hl hy (fun pos hp => ?_) L.length 0 rfl (Nat.zero_le _) (fun i h => absurd h (Nat.not_lt_zero _))
  have n110 : (L.length ≤ pos ∨ l3 ≠ 1) → B_X23_joined_110 Z (d + 1) τ l1 l3 R (Int32.ofNat (1 + L.length)) l6 l7 l8 (Int32.ofNat y) (Int32.ofNat (1 + pos)) K := by
    intro hw
    refine S_X23_joined_110 F p1 p4 p7 ⟨fun q => ?_, fun q => ?_⟩
    · rw [oN_le (by have := hp.1; omega) (by have := hp.1; omega)] at q
      have e : pos = L.length := by have := hp.1; omega
      subst e
      have hn := hp.end
      have hr := hroom hn
      rw [oN_t (by omega), oN_1]
      refine ⟨ib_oN (by omega) (by decide), ?_⟩
      have := hk (τ.wi R (1 + L.length) (Int32.ofNat y)) (L ++ [y]) ((FrR.refl R τ).wi _ _) (by rw [wi_i, if_neg (by omega)]) (Or.inl ⟨hn, rfl⟩) (fun i z hz => by
        rw [wi_i]
        by_cases g : i < L.length
        · rw [List.getElem?_append_left g] at hz
          rw [if_neg (by omega)]
          exact hR i z hz
        · rw [List.getElem?_append_right (by omega)] at hz
          have g3 : i = L.length := by
            have := (List.getElem?_eq_some_iff.mp hz).1
            simp only [List.length_cons, List.length_nil] at this
            omega
          rw [if_pos ⟨rfl, by omega⟩]
          rw [g3, Nat.sub_self] at hz
          rw [← Option.some.inj hz])
      rw [List.length_append] at this
      exact this
    · rw [oN_le (by have := hp.1; omega) (by have := hp.1; omega)] at q
      have hlt : pos < L.length := by omega
      have hw : l3 ≠ 1 := hw.resolve_left (by omega)
      refine jn_121 p1 p4 p7 F hl hlt (fun υ f1 f2 f3 => ?_) (L.length - pos) pos τ rfl (Nat.le_refl _) hlt (FrR.refl R τ) rfl fun i z hz => ?_
      · have := hk υ (L.eraseIdx pos ++ [y]) f1 f2 (Or.inr (Or.inr ⟨hw, pos, hlt, hp, rfl⟩)) f3
        rw [List.length_append, List.length_eraseIdx_of_lt hlt] at this
        rw [show L.length - 1 + [y].length = L.length from by simp only [List.length_cons, List.length_nil]; omega] at this
        exact this
      · rw [if_neg (by omega)] at hz
        exact hR i z hz
  refine S_X23_joined_95 F p1 p4 p7 ⟨fun q => n110 (Or.inl ?_), fun q => ⟨fun z => n110 (Or.inr z), fun z => ?_⟩⟩
  · rw [oN_le (by have := hp.1; omega) (by have := hp.1; omega)] at q
    omega
  · rw [oN_le (by have := hp.1; omega) (by have := hp.1; omega)] at q
    have hlt : pos < L.length := by omega
    exact hk τ L (FrR.refl R τ) rfl (Or.inr (Or.inl ⟨List.mem_of_getElem? (hp.2.2 hlt), z, rfl⟩)) hR
end JOIN
theorem nd_len : ∀ (k : Nat) (L : List Nat), L.Nodup → (∀ z ∈ L, z < k) → L.length ≤ k
  | 0, L, _, h => by
    cases L with
    | nil => exact Nat.le_refl _
    | cons a L => exact absurd (h a List.mem_cons_self) (Nat.not_lt_zero _)
  | k + 1, L, hn, h => by
    by_cases g : k ∈ L
    · have h1 := nd_len k (L.erase k) (hn.erase k) fun z hz => by
        have h2 := (List.Nodup.mem_erase_iff hn).mp hz
        have := h z h2.2
        have := h2.1
        omega
      rw [List.length_erase_of_mem g] at h1
      have := List.length_pos_of_mem g
      omega
    · have := nd_len k L hn fun z hz => by
        have h1 := h z hz
        have : z ≠ k := fun e => g (e ▸ hz)
        omega
      omega
theorem Jn.keeps {w : Int32} {L L' : List Nat} {y k : Nat} (h : Jn w L y L') (hn : L.Nodup) (hk : ∀ z ∈ L, z < k) (hy : y < k) : L'.Nodup ∧ ∀ z ∈ L', z < k := by
  rcases h with ⟨h1, rfl⟩ | ⟨h1, h2, rfl⟩ | ⟨h1, pos, h2, h3, rfl⟩
  · refine ⟨List.nodup_append.mpr ⟨hn, List.nodup_cons.mpr ⟨List.not_mem_nil, List.nodup_nil⟩, fun a ha b hb e => ?_⟩, fun z hz => ?_⟩
    · rw [List.mem_singleton.mp hb] at e
      exact h1 (e ▸ ha)
    · rcases List.mem_append.mp hz with g | g
      · exact hk z g
      · rw [List.mem_singleton.mp g]
        exact hy
  · exact ⟨hn, hk⟩
  · have sub : List.Sublist (L.eraseIdx pos) L := List.eraseIdx_sublist L pos
    have e1 : L[pos]? = some y := h3.2.2 h2
    have e2 : y ∉ L.eraseIdx pos := by
      have e3 : L[pos] = y := by
        rw [List.getElem?_eq_getElem h2] at e1
        exact Option.some.inj e1
      intro z
      obtain ⟨i, hi, hne, e4⟩ := List.mem_eraseIdx_iff_getElem.mp z
      rcases Nat.lt_or_gt_of_ne hne with g | g
      · exact List.pairwise_iff_getElem.mp hn i pos hi h2 g (e4.trans e3.symm)
      · exact List.pairwise_iff_getElem.mp hn pos i h2 hi g (e3.trans e4.symm)
    refine ⟨List.nodup_append.mpr ⟨sub.nodup hn, List.nodup_cons.mpr ⟨List.not_mem_nil, List.nodup_nil⟩, fun a ha b hb e => ?_⟩, fun z hz => ?_⟩
    · rw [List.mem_singleton.mp hb] at e
      exact e2 (e ▸ ha)
    · rcases List.mem_append.mp hz with g | g
      · exact hk z (sub.subset g)
      · rw [List.mem_singleton.mp g]
        exact hy
/-- many kinds come in -/
def JnF (w : Int32) : List Nat → List Nat → List Nat → Prop
  | L, [], L' => L' = L
  | L, y :: ys, L' => ∃ L1, Jn w L y L1 ∧ JnF w L1 ys L'
theorem FrR.trans {R : Nat} {σ τ υ : Sg} (h : FrR R σ τ) (g : FrR R τ υ) : FrR R σ υ := ⟨g.1.trans h.1, g.2.1.trans h.2.1, g.2.2.1.trans h.2.2.1, fun a ha => (g.2.2.2 a ha).trans (h.2.2.2 a ha)⟩
section JOIN2
variable {Z : zT} {d l1 R l7 k : Nat} {l6 : Int32} {K : kS} {w : Nat}
/-- a parent's row comes in -/
theorem jn_45 {σ : Sg} (F0 : FX ΦR σ.sh σ.r) (hw : w < 3) (p1 : sh0R[l1]? = some (Sh.obj 18)) (p4 : sh0R[R]? = some (Sh.arr 0 24)) (p7 : sh0R[l7]? = some (Sh.obj 18)) (hk24 : k ≤ 23) {ys : List Nat} (hys : ∀ z ∈ ys, z < k) (hyl : ys.length ≤ 24) (n1 : l7 + 8 ≠ R) (n2 : l7 + 4 + 1 + w ≠ R) (e1 : σ.i (l7 + 8) w = Int32.ofNat ys.length) (e2 : ∀ i y, ys[i]? = some y → σ.i (l7 + 4 + 1 + w) i = Int32.ofNat y) : ∀ m i (L : List Nat) (τ : Sg), ys.length - i = m → i ≤ ys.length → FrR R σ τ → L.Nodup → (∀ z ∈ L, z < k) → RowIs τ R L → (∀ υ L', FrR R σ υ → υ.i R 0 = τ.i R 0 → L'.Nodup → (∀ z ∈ L', z < k) → JnF (Int32.ofNat w) L (ys.drop i) L' → RowIs υ R L' → B_X23_joined_19 Z (d + 1) υ l1 (Int32.ofNat w) R (Int32.ofNat (1 + L'.length)) (l6 + 1) K) → B_X23_joined_45 Z (d + 1) τ l1 (Int32.ofNat w) R (Int32.ofNat (1 + L.length)) l6 l7 (Int32.ofNat i) K
  | 0, i, L, τ, hm, hi, hF, hn, hb, hR, hK => by
    have e : i = ys.length := by omega
    subst e
    have F := hF.fx F0
    refine S_X23_joined_45 F p1 p4 p7 ⟨ib_oN hw (by decide), fun _ => ?_, fun q => absurd ?_ q⟩
    · exact hK τ L hF rfl hn hb (by rw [List.drop_length]; exact rfl) hR
    · rw [oN_t (by omega), hF.2.2.2 _ n1, e1]
      exact Int32.le_refl _
  | m + 1, i, L, τ, hm, hi, hF, hn, hb, hR, hK => by
    have F := hF.fx F0
    have hlt : i < ys.length := by omega
    have hy := hys _ (List.getElem_mem hlt)
    have hLl := nd_len k L hn hb
    refine S_X23_joined_45 F p1 p4 p7 ⟨ib_oN hw (by decide), fun q => ?_, fun _ => ⟨ib_oN hw (by decide), ib_oN (by omega) (by decide), ?_⟩⟩
    · exfalso
      rw [oN_t (by omega), hF.2.2.2 _ n1, e1, oN_le (by omega) (by omega)] at q
      omega
    · rw [oN_t (by omega), oN_t (by omega), hF.2.2.2 _ n2, e2 i _ (List.getElem?_eq_getElem hlt)]
      refine jn_one F p1 p4 p7 hR (fun z hz => by have := hb z hz; omega) (by omega) (by omega) (fun g => ?_) fun υ L1 f1 f2 f3 f4 => ?_
      · have := nd_len k (ys[i] :: L) (List.nodup_cons.mpr ⟨g, hn⟩) fun z hz => by
          rcases List.mem_cons.mp hz with q | q
          · rw [q]
            exact hy
          · exact hb z q
        simp only [List.length_cons] at this
        omega
      · have g := f3.keeps hn hb hy
        rw [oN_1]
        refine jn_45 F0 hw p1 p4 p7 hk24 hys hyl n1 n2 e1 e2 m (i + 1) L1 υ (by omega) (by omega) (hF.trans f1) g.1 g.2 f4 fun υ2 L2 h1 h2 h3 h4 h5 h6 => ?_
        refine hK υ2 L2 h1 (h2.trans f2) h3 h4 ?_ h6
        rw [List.drop_eq_getElem_cons hlt]
        exact ⟨L1, f3, h5⟩
end JOIN2
theorem JnF_app {w : Int32} : ∀ {xs ys L L1 L2 : List Nat}, JnF w L xs L1 → JnF w L1 ys L2 → JnF w L (xs ++ ys) L2
  | [], ys, L, L1, L2, h, g => by
    have h : L1 = L := h
    subst h
    exact g
  | x :: xs, ys, L, L1, L2, ⟨M, h1, h2⟩, g => ⟨M, h1, JnF_app h2 g⟩
section JOIN3
variable {Z : zT} {d k w : Nat} {K : kS}
/-- the kinds' places -/
abbrev kdA (k : Nat) : Nat := 2193 + 9 * k
theorem kd_p {k : Nat} (h : k < 24) : sh0R[kdA k]? = some (Sh.obj 18) := kE_1 h
/-- the parents' rows, one behind the other -/
theorem jn_19 {σ : Sg} (F0 : FX ΦR σ.sh σ.r) (hw : w < 3) (hk24 : k ≤ 23) {ps : List Nat} {rw_ : Nat → List Nat} (hps : ∀ p ∈ ps, p < k) (hpl : ps.length ≤ 24) (hrl : ∀ p ∈ ps, (rw_ p).length ≤ 24 ∧ ∀ z ∈ rw_ p, z < k) (e0 : σ.i (kdA k) 3 = Int32.ofNat ps.length) (e1 : ∀ i p, ps[i]? = some p → σ.i (kdA k + 3) i = Int32.ofNat p) (e2 : ∀ p ∈ ps, σ.i (kdA p + 8) w = Int32.ofNat (rw_ p).length) (e3 : ∀ p ∈ ps, ∀ i y, (rw_ p)[i]? = some y → σ.i (kdA p + 4 + 1 + w) i = Int32.ofNat y) : ∀ m j (L : List Nat) (τ : Sg), ps.length - j = m → j ≤ ps.length → FrR (kdA k + 4 + 1 + w) σ τ → L.Nodup → (∀ z ∈ L, z < k) → RowIs τ (kdA k + 4 + 1 + w) L → (∀ υ L', FrR (kdA k + 4 + 1 + w) σ υ → υ.i (kdA k + 4 + 1 + w) 0 = τ.i (kdA k + 4 + 1 + w) 0 → L'.Nodup → (∀ z ∈ L', z < k) → JnF (Int32.ofNat w) L ((ps.drop j).flatMap rw_) L' → RowIs υ (kdA k + 4 + 1 + w) L' → K (.inl none) (υ.wi (kdA k + 8) w (Int32.ofNat (1 + L'.length)))) → B_X23_joined_19 Z (d + 1) τ (kdA k) (Int32.ofNat w) (kdA k + 4 + 1 + w) (Int32.ofNat (1 + L.length)) (Int32.ofNat j) K
  | 0, j, L, τ, hm, hj, hF, hn, hb, hR, hK => by
    have e : j = ps.length := by omega
    subst e
    have F := hF.fx F0
    have p1 := kd_p (k := k) (by omega)
    refine S_X23_joined_19 F p1 (kE_18_4 p1 hw) ⟨fun _ => ⟨ib_oN hw (by decide), ?_⟩, fun q => absurd ?_ q⟩
    · rw [oN_t (by omega)]
      exact hK τ L hF rfl hn hb (by rw [List.drop_length]; exact rfl) hR
    · rw [hF.2.2.2 _ (by omega), e0]
      exact Int32.le_refl _
  | m + 1, j, L, τ, hm, hj, hF, hn, hb, hR, hK => by
    have F := hF.fx F0
    have p1 := kd_p (k := k) (by omega)
    have hlt : j < ps.length := by omega
    have hmem := List.getElem_mem hlt
    have hp := hps _ hmem
    have er : τ.i (kdA k + 3) (Int32.ofNat j).toNatClampNeg = Int32.ofNat ps[j] := by
      rw [oN_t (by omega), hF.2.2.2 _ (by omega)]
      exact e1 j _ (List.getElem?_eq_getElem hlt)
    refine S_X23_joined_19 F p1 (kE_18_4 p1 hw) ⟨fun q => ?_, fun _ => ⟨ib_oN (by omega) (by decide), ?_, ?_⟩⟩
    · exfalso
      rw [hF.2.2.2 _ (by omega), e0, oN_le (by omega) (by omega)] at q
      omega
    · rw [er]
      exact ib_oN (by omega) (by decide)
    · rw [er, oN_t (by omega)]
      refine jn_45 F0 hw p1 (kE_18_4 p1 hw) (kd_p (by omega)) hk24 (hrl _ hmem).2 (hrl _ hmem).1 (by show 2193 + 9 * ps[j] + 8 ≠ 2193 + 9 * k + 4 + 1 + w; omega) (by show 2193 + 9 * ps[j] + 4 + 1 + w ≠ 2193 + 9 * k + 4 + 1 + w; omega) (e2 _ hmem) (e3 _ hmem) (rw_ ps[j]).length 0 L τ rfl (Nat.zero_le _) hF hn hb hR fun υ L1 f1 f2 f3 f4 f5 f6 => ?_
      rw [oN_1]
      refine jn_19 F0 hw hk24 hps hpl hrl e0 e1 e2 e3 m (j + 1) L1 υ (by omega) (by omega) f1 f3 f4 f6 fun υ2 L2 g1 g2 g3 g4 g5 g6 => ?_
      refine hK υ2 L2 g1 (g2.trans f2) g3 g4 ?_ g6
      rw [List.drop_eq_getElem_cons hlt, List.flatMap_cons]
      exact JnF_app f5 g5
/-- joined(): the row of kind k by way 1 or 2 -/
theorem rf_joined {σ : Sg} (F : FX ΦR σ.sh σ.r) (hw : w < 3) (hk24 : k ≤ 23) {ps : List Nat} {rw_ : Nat → List Nat} (hps : ∀ p ∈ ps, p < k) (hpl : ps.length ≤ 24) (hrl : ∀ p ∈ ps, (rw_ p).length ≤ 24 ∧ ∀ z ∈ rw_ p, z < k) (e0 : σ.i (kdA k) 3 = Int32.ofNat ps.length) (e1 : ∀ i p, ps[i]? = some p → σ.i (kdA k + 3) i = Int32.ofNat p) (e2 : ∀ p ∈ ps, σ.i (kdA p + 8) w = Int32.ofNat (rw_ p).length) (e3 : ∀ p ∈ ps, ∀ i y, (rw_ p)[i]? = some y → σ.i (kdA p + 4 + 1 + w) i = Int32.ofNat y) (hK : ∀ υ L, FrR (kdA k + 4 + 1 + w) σ υ → υ.i (kdA k + 4 + 1 + w) 0 = Int32.ofNat k → L.Nodup → (∀ z ∈ L, z < k) → JnF (Int32.ofNat w) [] (ps.flatMap rw_) L → RowIs υ (kdA k + 4 + 1 + w) L → K (.inl none) (υ.wi (kdA k + 8) w (Int32.ofNat (1 + L.length)))) : B_X23_joined_0 Z (d + 1) σ (kdA k) (Int32.ofNat k) (Int32.ofNat w) K := by
  have p1 := kd_p (k := k) (by omega)
  refine S_X23_joined_0 F ⟨p1, ib_oN hw (by decide), ?_⟩
  rw [oN_t (by omega)]
  have base : FrR (kdA k + 4 + 1 + w) σ (σ.wi (kdA k + 4 + 1 + w) 0 (Int32.ofNat k)) := (FrR.refl _ σ).wi _ _
  refine jn_19 F hw hk24 hps hpl hrl e0 e1 e2 e3 ps.length 0 [] _ rfl (Nat.zero_le _) base List.nodup_nil (fun z h => absurd h List.not_mem_nil) (fun i y h => by simp at h) fun υ L f1 f2 f3 f4 f5 f6 => ?_
  refine hK υ L f1 (f2.trans ?_) f3 f4 f5 f6
  rw [wi_i, if_pos ⟨rfl, rfl⟩]
end JOIN3

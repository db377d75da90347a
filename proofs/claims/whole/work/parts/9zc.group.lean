/-! PAIRS OF LONGS AS SETS OF METHODS -/
def pb (p : Int64 × Int64) (m : Nat) : Bool := tb (if (m - 1) / 64 = 0 then p.1 else p.2) ((m - 1) % 64)
def anP (p q : Int64 × Int64) : Int64 × Int64 := (p.1 &&& q.1, p.2 &&& q.2)
theorem pb_an (p q : Int64 × Int64) (m : Nat) : pb (anP p q) m = (pb p m && pb q m) := by
  unfold pb anP
  split <;> exact tb_and _ _ _
theorem pb_m1 (m : Nat) : pb (-1, -1) m = true := by
  unfold pb
  split <;> exact tb_m1 (Nat.mod_lt _ (by decide))
theorem pb_ext {p q : Int64 × Int64} : p = q ↔ ∀ m, 1 ≤ m → m ≤ 128 → pb p m = pb q m := by
  constructor
  · intro h m _ _
    rw [h]
  · intro h
    refine Prod.ext ?_ ?_
    · refine tb_ext fun b hb => ?_
      have := h (b + 1) (by omega) (by omega)
      unfold pb at this
      rw [if_pos (by omega), if_pos (by omega), show (b + 1 - 1) % 64 = b by omega] at this
      exact this
    · refine tb_ext fun b hb => ?_
      have := h (b + 65) (by omega) (by omega)
      unfold pb at this
      rw [if_neg (by omega), if_neg (by omega), show (b + 65 - 1) % 64 = b by omega] at this
      exact this
theorem pb_0 {p : Int64 × Int64} : (p.1 = 0 ∧ p.2 = 0) ↔ ∀ m, 1 ≤ m → m ≤ 128 → pb p m = false := by
  have e : (p.1 = 0 ∧ p.2 = 0) ↔ p = (0, 0) := ⟨fun h => Prod.ext h.1 h.2, fun h => by rw [h]; exact ⟨rfl, rfl⟩⟩
  rw [e, pb_ext]
  have z : ∀ m, pb (0, 0) m = false := fun m => by
    unfold pb
    split <;> exact tb_0 _
  constructor
  · intro h m h1 h2
    rw [h m h1 h2, z]
  · intro h m h1 h2
    rw [h m h1 h2, z]
theorem tb_orL (f : Nat → Int64) (l : List Nat) (b : Nat) : tb (orL f l) b = l.any fun y => tb (f y) b := by
  have key : ∀ (l : List Nat) (a : Int64), tb (l.foldl (fun a y => a ||| f y) a) b = (tb a b || l.any fun y => tb (f y) b) := by
    intro l
    induction l with
    | nil => intro a; rw [List.foldl_nil, List.any_nil, Bool.or_false]
    | cons x l ih =>
      intro a
      rw [List.foldl_cons, ih, tb_or, List.any_cons, Bool.or_assoc]
  have := key l 0
  rw [tb_0, Bool.false_or] at this
  exact this
/-! PURE: which methods fit a kind at a place -/
def fS (W : Wld) (c i k m : Nat) : Bool := decide (m < W.2.2.2.length + 1) && decide (gnW W.2.2.2 m = 0) && decide (mcW W.2.2.2 m = c) && decide (i < plW W.2.1 c) && decide (kdW W.2.2.2 m i ∈ rwW W.1 1 k)
def anS (W : Wld) (c i m : Nat) : Bool := (mkW W.1).any fun k => fS W c i k m
def mnS (W : Wld) (c m : Nat) : Bool := decide (m < W.2.2.2.length + 1) && decide (gnW W.2.2.2 m = 0) && decide (mcW W.2.2.2 m = c)
/-- a set as a list -/
def seL (p : Nat → Bool) : List Bool := (List.range 128).map fun j => p (j + 1)
theorem seL_eq {p q : Nat → Bool} : seL p = seL q ↔ ∀ m, 1 ≤ m → m ≤ 128 → p m = q m := by
  unfold seL
  constructor
  · intro h m h1 h2
    have hm : m - 1 < 128 := by omega
    have := List.map_inj_left.mp h (m - 1) (List.mem_range.mpr hm)
    rw [show m - 1 + 1 = m by omega] at this
    exact this
  · intro h
    refine List.map_congr_left fun j hj => h (j + 1) (by omega) ?_
    have := List.mem_range.mp hj
    omega
/-- others can fit too -/
def otS (W : Wld) (c i m : Nat) : Bool := (List.range (plW W.2.1 c)).all fun j => decide (j = i) || anS W c j m
def alB (W : Wld) (c i k g : Nat) : Bool := decide (seL (fun m => otS W c i m && fS W c i k m) = seL (fun m => otS W c i m && fS W c i g m))
def grA (al : Nat → Nat → Bool) : List Nat → List Nat → List Nat
  | [], G => G
  | k :: r, G => grA al r (if G.any (al k) = true then G else G ++ [k])
theorem grA_app (al : Nat → Nat → Bool) : ∀ (a b G : List Nat), grA al (a ++ b) G = grA al b (grA al a G)
  | [], b, G => rfl
  | x :: a, b, G => by
    rw [List.cons_append, grA, grA]
    exact grA_app al a b _
/-- the kinds that stand for all, at a place -/
def grW (W : Wld) (c i : Nat) : List Nat := grA (alB W c i) (mkW W.1) []
theorem grA_len (al : Nat → Nat → Bool) : ∀ (l G : List Nat), (grA al l G).length ≤ G.length + l.length
  | [], G => by
    show G.length ≤ _
    omega
  | k :: r, G => by
    have := grA_len al r (if G.any (al k) = true then G else G ++ [k])
    rw [grA, List.length_cons]
    split at this
    · rename_i h
      rw [if_pos h]
      omega
    · rename_i h
      rw [if_neg h]
      rw [List.length_append] at this
      have : _ ≤ G.length + 1 + r.length := this
      omega
theorem grA_sub (al : Nat → Nat → Bool) : ∀ (l G : List Nat), ∀ x ∈ grA al l G, x ∈ G ∨ x ∈ l
  | [], G, x, h => Or.inl h
  | k :: r, G, x, h => by
    rw [grA] at h
    rcases grA_sub al r _ x h with z | z
    · split at z
      · exact Or.inl z
      · rcases List.mem_append.mp z with z | z
        · exact Or.inl z
        · rw [List.mem_singleton] at z
          rw [z]
          exact Or.inr (List.mem_cons_self ..)
    · exact Or.inr (List.mem_cons_of_mem _ z)
theorem grA_mono (al : Nat → Nat → Bool) : ∀ (l G : List Nat), ∀ x ∈ G, x ∈ grA al l G
  | [], G, x, h => h
  | k :: r, G, x, h => by
    rw [grA]
    refine grA_mono al r _ x ?_
    split
    · exact h
    · exact List.mem_append_left _ h
theorem grA_has (al : Nat → Nat → Bool) (hr : ∀ k, al k k = true) : ∀ (l G : List Nat), ∀ x ∈ l, ∃ g ∈ grA al l G, al x g = true
  | [], G, x, h => by cases h
  | k :: r, G, x, h => by
    rw [grA]
    rcases List.mem_cons.mp h with z | z
    · subst z
      split
      · rename_i q
        obtain ⟨g, g1, g2⟩ := List.any_eq_true.mp q
        exact ⟨g, grA_mono al r _ g g1, g2⟩
      · exact ⟨x, grA_mono al r _ x (List.mem_append_right _ (List.mem_singleton.mpr rfl)), hr x⟩
    · exact grA_has al hr r _ x z
/-- kinds that stand for all are not alike -/
theorem grA_nd {β : Type} (al : Nat → Nat → Bool) (f : Nat → β) (hf : ∀ k g, al k g = true ↔ f k = f g) : ∀ (l G : List Nat), (G.map f).Nodup → ((grA al l G).map f).Nodup
  | [], G, h => h
  | k :: r, G, h => by
    rw [grA]
    refine grA_nd al f hf r _ ?_
    split
    · exact h
    · rename_i q
      rw [List.map_append, List.nodup_append]
      refine ⟨h, by simp, fun a ha b hb e => q ?_⟩
      have hb : b = f k := by simpa using hb
      obtain ⟨g, g1, g2⟩ := List.mem_map.mp ha
      exact List.any_eq_true.mpr ⟨g, g1, (hf k g).mpr (by rw [g2, e, hb])⟩
theorem grW_n (W : Wld) (c i : Nat) : (grW W c i).length = dsN ((mkW W.1).map fun k => seL (fun m => otS W c i m && fS W c i k m)) := by
  have hf : ∀ k g, alB W c i k g = true ↔ seL (fun m => otS W c i m && fS W c i k m) = seL (fun m => otS W c i m && fS W c i g m) := fun k g => by
    unfold alB
    exact decide_eq_true_iff
  have h1 := grA_nd (alB W c i) (fun k => seL (fun m => otS W c i m && fS W c i k m)) hf (mkW W.1) [] List.nodup_nil
  have := dsN_nd (L := (mkW W.1).map fun k => seL (fun m => otS W c i m && fS W c i k m)) h1 (fun x => ?_)
  · rw [List.length_map] at this
    exact this
  · rw [List.mem_map, List.mem_map]
    constructor
    · rintro ⟨g, g1, g2⟩
      rcases grA_sub _ _ _ g g1 with z | z
      · cases z
      · exact ⟨g, z, g2⟩
    · rintro ⟨g, g1, g2⟩
      obtain ⟨y, y1, y2⟩ := grA_has (alB W c i) (fun k => (hf k k).mpr rfl) (mkW W.1) [] g g1
      exact ⟨y, y1, by rw [← (hf g y).mp y2]; exact g2⟩
/-! THE REFERENCE: group() -/
def LtF (σ τ : Sg) : Prop := τ.sh = σ.sh ∧ τ.r = σ.r ∧ (∀ a, ¬ (2121 ≤ a ∧ a ≤ 2125) → a ≠ 2128 → a ≠ 1931 → τ.i a = σ.i a) ∧ ∀ a k, a ≠ 2126 → a ≠ 2127 → ¬ (a = 0 ∧ 64 ≤ k ∧ k ≤ 67) → τ.l a k = σ.l a k
theorem LtF.refl (σ : Sg) : LtF σ σ := ⟨rfl, rfl, fun _ _ _ _ => rfl, fun _ _ _ _ _ => rfl⟩
theorem LtF.tr {σ τ υ : Sg} (h : LtF σ τ) (g : LtF τ υ) : LtF σ υ := ⟨g.1.trans h.1, g.2.1.trans h.2.1, fun a h1 h2 h3 => (g.2.2.1 a h1 h2 h3).trans (h.2.2.1 a h1 h2 h3), fun a k h1 h2 h3 => (g.2.2.2 a k h1 h2 h3).trans (h.2.2.2 a k h1 h2 h3)⟩
theorem HsF.lt {σ τ : Sg} (h : HsF σ τ) : LtF σ τ := ⟨h.1, h.2.1, fun a _ h2 _ => h.2.2.1 a h2, fun a k h1 h2 _ => by rw [h.2.2.2 a h1 h2]⟩
theorem LtF.fx {σ τ : Sg} (h : LtF σ τ) (F : FX ΦR σ.sh σ.r) : FX ΦR τ.sh τ.r := by
  rw [h.1, h.2.1]
  exact F
/-- what the lists are made of -/
def WkS (W : Wld) (σ : Sg) : Prop := FX ΦR σ.sh σ.r ∧ W3 W.1 W.2.1 W.2.2.1 σ ∧ RbR W.1 W.2.1 W.2.2.2 σ ∧ W.2.2.2.length ≤ 120
def fpr (σ : Sg) (c i k : Nat) : Int64 × Int64 := (σ.l (fitA c i k) 0, σ.l (fitA c i k) 1)
section GROUP
variable {Z : zT} {d : Nat} {W : Wld} {σ τ : Sg} {K : kS} {c : Nat}
theorem WkS.lt (h : WkS W σ) (g : LtF σ τ) : WkS W τ := by
  obtain ⟨h1, h2, h3, h4⟩ := h
  have hk := h2.1.2.1
  have hc := h2.2.1.2.1
  have hl := h2.2.2.2.1
  have z0 : τ.i 0 = σ.i 0 := g.2.2.1 0 (by decide) (by decide) (by decide)
  refine ⟨g.fx h1, h2.keep (fun a ha => g.2.2.1 a (by omega) (by omega) (by omega)) (by rw [z0]) (by rw [z0]) (by rw [z0]), h3.mono hk.2 hc (fun a a1 a2 a3 => ⟨g.2.2.1 a (by omega) (by omega) (by omega), funext fun k => g.2.2.2 a k (by omega) (by omega) (by omega)⟩) (by rw [z0]), h4⟩
theorem mk_lt {ks : List Knd} {k : Nat} (h : k ∈ mkW ks) : k < ks.length := List.mem_range.mp (List.mem_filter.mp h).1
theorem WkS.fit (h : WkS W σ) (hc : c < W.2.1.length) {i k : Nat} (hi : i < 3) (hk : k < W.1.length) {m : Nat} (h1 : 1 ≤ m) (h2 : m ≤ 128) : pb (fpr σ c i k) m = fS W c i k m := by
  have := h.2.2.1.2.2.2.1 c i k m hc hi hk h1 h2
  have e : pb (fpr σ c i k) m = st2 σ (fitA c i k) m := by
    unfold pb st2 fpr
    rcases (by omega : (m - 1) / 64 = 0 ∨ (m - 1) / 64 = 1) with q | q <;> rw [q] <;> rfl
  rw [e, Bool.eq_iff_iff, this]
  unfold fS
  rw [Bool.and_eq_true, Bool.and_eq_true, Bool.and_eq_true, Bool.and_eq_true, decide_eq_true_eq, decide_eq_true_eq, decide_eq_true_eq, decide_eq_true_eq, decide_eq_true_eq]
  constructor
  · rintro ⟨a, b, c, d, e⟩
    exact ⟨⟨⟨⟨a, b⟩, c⟩, d⟩, e⟩
  · rintro ⟨⟨⟨⟨a, b⟩, c⟩, d⟩, e⟩
    exact ⟨a, b, c, d, e⟩
theorem WkS.any (h : WkS W σ) (hc : c < W.2.1.length) {i : Nat} (hi : i < 3) {m : Nat} (h1 : 1 ≤ m) (h2 : m ≤ 128) : pb (σ.l (2071 + 1 + c) i, σ.l (2096 + 1 + c) i) m = anS W c i m := by
  obtain ⟨a1, a2⟩ := h.2.2.1.2.2.2.2.2 c i hc hi
  have e : pb (σ.l (2071 + 1 + c) i, σ.l (2096 + 1 + c) i) m = (mkW W.1).any fun y => pb (fpr σ c i y) m := by
    unfold pb fpr
    rw [a1, a2]
    rcases (by omega : (m - 1) / 64 = 0 ∨ (m - 1) / 64 = 1) with q | q
    · rw [q]
      exact tb_orL _ _ _
    · rw [q]
      exact tb_orL _ _ _
  rw [e]
  unfold anS
  rw [Bool.eq_iff_iff, List.any_eq_true, List.any_eq_true]
  constructor
  · rintro ⟨y, y1, y2⟩
    rw [h.fit hc hi (mk_lt y1) h1 h2] at y2
    exact ⟨y, y1, y2⟩
  · rintro ⟨y, y1, y2⟩
    rw [← h.fit hc hi (mk_lt y1) h1 h2] at y2
    exact ⟨y, y1, y2⟩
theorem WkS.mine (h : WkS W σ) (hc : c < W.2.1.length) {m : Nat} (h1 : 1 ≤ m) (h2 : m ≤ 128) : pb (σ.l (1905 + 1 + c) 0, σ.l (1905 + 1 + c) 1) m = mnS W c m := by
  have := h.2.2.1.2.2.1 c m hc h1 h2
  have e : pb (σ.l (1905 + 1 + c) 0, σ.l (1905 + 1 + c) 1) m = st2 σ (1905 + 1 + c) m := by
    unfold pb st2
    rcases (by omega : (m - 1) / 64 = 0 ∨ (m - 1) / 64 = 1) with q | q <;> rw [q] <;> rfl
  rw [e, Bool.eq_iff_iff, this]
  unfold mnS
  rw [Bool.and_eq_true, Bool.and_eq_true, decide_eq_true_eq, decide_eq_true_eq, decide_eq_true_eq]
  constructor
  · rintro ⟨a, b, c⟩
    exact ⟨⟨a, b⟩, c⟩
  · rintro ⟨⟨a, b⟩, c⟩
    exact ⟨a, b, c⟩
/-- the kinds that stand for all at a place, as they lie there -/
def GrS (σ : Sg) (i : Nat) (G : List Nat) : Prop := σ.i 2125 i = Int32.ofNat G.length ∧ ∀ (j y : Nat), G[j]? = some y → σ.i (2121 + 1 + i) j = Int32.ofNat y
theorem rf_isAlike {i k g : Nat} {u : Int64 × Int64} (H : WkS W σ) (hc : c < W.2.1.length) (hi : i < 3) (hk : k < W.1.length) (hg : g < W.1.length) (hu : ∀ m, 1 ≤ m → m ≤ 128 → pb u m = otS W c i m) (h : K (.inl (some (.int (if alB W c i k g = true then 1 else 0)))) σ) : B_X23_isAlike_0 Z (d + 1) σ (55 + 1 + 76 * c + 1 + 25 * i + 1 + k) (55 + 1 + 76 * c + 1 + 25 * i + 1 + g) u.1 u.2 K := by
  have hk24 := H.2.1.1.2.1
  have hc24 := H.2.1.2.1.2.1
  have key : ((((fpr σ c i k).1 ^^^ (fpr σ c i g).1) &&& u.1) = 0 ∧ (((fpr σ c i k).2 ^^^ (fpr σ c i g).2) &&& u.2) = 0) ↔ alB W c i k g = true := by
    have := pb_0 (p := (((fpr σ c i k).1 ^^^ (fpr σ c i g).1) &&& u.1, ((fpr σ c i k).2 ^^^ (fpr σ c i g).2) &&& u.2))
    rw [this]
    unfold alB
    rw [decide_eq_true_iff, seL_eq]
    refine forall_congr' fun m => forall_congr' fun h1 => forall_congr' fun h2 => ?_
    have e : pb (((fpr σ c i k).1 ^^^ (fpr σ c i g).1) &&& u.1, ((fpr σ c i k).2 ^^^ (fpr σ c i g).2) &&& u.2) m = ((fS W c i k m ^^ fS W c i g m) && otS W c i m) := by
      rw [← H.fit hc hi hk h1 h2, ← H.fit hc hi hg h1 h2, ← hu m h1 h2]
      unfold pb
      split
      · rw [tb_and, tb_xor]
      · rw [tb_and, tb_xor]
    rw [e]
    cases fS W c i k m <;> cases fS W c i g m <;> cases otS W c i m <;> simp
  refine S_X23_isAlike_0 H.1 ⟨2, H.1.s (kE_fit2 (by omega) hi (by omega)), by decide, 2, H.1.s (kE_fit2 (by omega) hi (by omega)), by decide, ?_⟩
  rw [cmpE, cmpE]
  by_cases q : alB W c i k g = true
  · obtain ⟨z1, z2⟩ := key.mpr q
    rw [if_pos q] at h
    exact ⟨fun z => absurd z1 z, fun _ => ⟨by decide, by decide, fun z => absurd z2 z, fun _ => h⟩⟩
  · rw [if_neg q] at h
    exact ⟨fun _ => h, fun z1 => ⟨by decide, by decide, fun _ => h, fun z2 => absurd (key.mp ⟨z1, z2⟩) q⟩⟩
/-- group() -/
theorem rf_group (H : WkS W σ) (hc : c < W.2.1.length) (h : ∀ τ, LtF σ τ → τ.i 2128 = σ.i 2128 → τ.l = σ.l → τ.i 1931 = σ.i 1931 → (∀ i, i < plW W.2.1 c → GrS τ i (grW W c i)) → K (.inl none) τ) : B_X23_group_0 Z (d + 2) σ (Int32.ofNat c) K := by
  have hk24 := H.2.1.1.2.1
  have hc24 := H.2.1.2.1.2.1
  obtain ⟨-, -, w3⟩ := wyW_ok H.2.1 hc
  have hpl : plW W.2.1 c ≤ 3 := by
    have e : W.2.1[c]? = some W.2.1[c] := List.getElem?_eq_getElem hc
    have := (H.2.1.2.1.2.2 c _ e).2.1.2.1
    unfold plW
    rw [e]
    exact this
  have hml : (mkW W.1).length ≤ 24 := by
    unfold mkW
    have := List.length_filter_le (fun k => !(((W.1[k]?).map (·.2.1)).getD false)) (List.range W.1.length)
    rw [List.length_range] at this
    omega
  generalize hp : plW W.2.1 c = pl at *
  have ibc : ib (Int32.ofNat c) 24 := ib_oN (by omega) (by decide)
  -- the frame on the way
  have fr : ∀ {τ : Sg}, (τ.sh = σ.sh ∧ τ.r = σ.r ∧ τ.l = σ.l ∧ ∀ a, ¬ (2122 ≤ a ∧ a ≤ 2125) → τ.i a = σ.i a) → LtF σ τ := fun {τ} g => ⟨g.1, g.2.1, fun a a1 _ _ => g.2.2.2 a (by omega), fun a k _ _ _ => by rw [g.2.2.1]⟩
  have main : ∀ r i τ, pl - i = r → i ≤ pl → (τ.sh = σ.sh ∧ τ.r = σ.r ∧ τ.l = σ.l ∧ ∀ a, ¬ (2122 ≤ a ∧ a ≤ 2125) → τ.i a = σ.i a) → (∀ j, j < i → GrS τ j (grW W c j)) → B_X23_group_12 Z (d + 2) τ (Int32.ofNat c) (Int32.ofNat pl) (Int32.ofNat i) K := by
    intro r
    induction r with
    | zero =>
      intro i τ hr hi g hG
      have e : i = pl := by omega
      subst e
      have F := (fr g).fx H.1
      exact S_X23_group_12 F ⟨fun _ => h τ (fr g) (g.2.2.2 _ (by decide)) g.2.2.1 (g.2.2.2 _ (by decide)) hG, fun z => absurd (Int32.le_refl _) z⟩
    | succ r ih =>
      intro i τ hr hi g hG
      have hlt : i < pl := by omega
      have ib3 : ib (Int32.ofNat i) 3 := ib_oN (by omega) (by decide)
      -- makeable kinds, one after the other
      have mks : ∀ (u : Int64 × Int64), (∀ m, 1 ≤ m → m ≤ 128 → pb u m = otS W c i m) → ∀ r2 j τ, (mkW W.1).length - j = r2 → j ≤ (mkW W.1).length → (τ.sh = σ.sh ∧ τ.r = σ.r ∧ τ.l = σ.l ∧ ∀ a, ¬ (2122 ≤ a ∧ a ≤ 2125) → τ.i a = σ.i a) → (∀ j, j < i → GrS τ j (grW W c j)) → GrS τ i (grA (alB W c i) ((mkW W.1).take j) []) → B_X23_group_89 Z (d + 2) τ (Int32.ofNat c) (Int32.ofNat pl) (Int32.ofNat i) u.1 u.2 (Int32.ofNat j) K := by
        intro u hu r2
        induction r2 with
        | zero =>
          intro j τ hr2 hj g hG hGi
          have e : j = (mkW W.1).length := by omega
          subst e
          have Hτ := H.lt (fr g)
          rw [List.take_length] at hGi
          refine S_X23_group_89 Hτ.1 ⟨fun _ => ?_, fun z => absurd (by rw [Hτ.2.2.1.2.1.1]; exact Int32.le_refl _) z⟩
          rw [oN_1]
          refine ih (i + 1) τ (by omega) (by omega) g (fun j hj => ?_)
          by_cases q : j = i
          · rw [q]
            exact hGi
          · exact hG j (by omega)
        | succ r2 ih2 =>
          intro j τ hr2 hj g hG hGi
          have hjl : j < (mkW W.1).length := by omega
          have e : (mkW W.1)[j]? = some (mkW W.1)[j] := List.getElem?_eq_getElem hjl
          have hkl := mk_lt (List.getElem_mem hjl)
          have Hτ := H.lt (fr g)
          have eG : grA (alB W c i) ((mkW W.1).take (j + 1)) [] = if (grA (alB W c i) ((mkW W.1).take j) []).any (alB W c i (mkW W.1)[j]) = true then grA (alB W c i) ((mkW W.1).take j) [] else grA (alB W c i) ((mkW W.1).take j) [] ++ [(mkW W.1)[j]] := by
            rw [List.take_add_one, e]
            show grA _ ((mkW W.1).take j ++ [(mkW W.1)[j]]) [] = _
            rw [grA_app]
            rfl
          have hgl := grA_len (alB W c i) ((mkW W.1).take j) []
          have hgs := grA_sub (alB W c i) ((mkW W.1).take j) []
          rw [List.length_take] at hgl
          have hgl : (grA (alB W c i) ((mkW W.1).take j) []).length ≤ j := by
            have : ([] : List Nat).length = 0 := rfl
            omega
          generalize hGG : grA (alB W c i) ((mkW W.1).take j) [] = G at *
          have hsrch : ∀ r3 g3, G.length - g3 = r3 → g3 ≤ G.length → (∀ x, x < g3 → ∀ y, G[x]? = some y → alB W c i (mkW W.1)[j] y = false) → B_X23_group_110 Z (d + 2) τ (Int32.ofNat c) (Int32.ofNat pl) (Int32.ofNat i) u.1 u.2 (Int32.ofNat j) (Int32.ofNat (mkW W.1)[j]) (Int32.ofNat g3) K := by
            have p166 : ∀ g3, g3 ≤ G.length → (g3 < G.length → G.any (alB W c i (mkW W.1)[j]) = true) → (g3 = G.length → G.any (alB W c i (mkW W.1)[j]) = false) → B_X23_group_166 Z (d + 2) τ (Int32.ofNat c) (Int32.ofNat pl) (Int32.ofNat i) u.1 u.2 (Int32.ofNat j) (Int32.ofNat (mkW W.1)[j]) (Int32.ofNat g3) K := by
              intro g3 hg3 hy hn
              refine S_X23_group_166 Hτ.1 ⟨ib3, fun z => ⟨ib3, ib_oN (by omega) (by decide), ib3, ib3, ?_⟩, fun z => ?_⟩
              · rw [oN_t (by omega), hGi.1, oN_le (by omega) (by omega)] at z
                have hgg : g3 = G.length := by omega
                rw [hn hgg] at eG
                have eG : grA (alB W c i) ((mkW W.1).take (j + 1)) [] = G ++ [(mkW W.1)[j]] := eG
                rw [oN_t (by omega), oN_t (by omega), wi_ne (by omega), hGi.1, oN_1 G.length, oN_1 j]
                refine ih2 (j + 1) _ (by omega) (by omega) ⟨g.1, g.2.1, g.2.2.1, fun a ha => ?_⟩ (fun j2 hj2 => ?_) ?_
                · rw [wi_row (by omega), wi_row (by omega)]
                  exact g.2.2.2 a ha
                · obtain ⟨b1, b2⟩ := hG j2 hj2
                  refine ⟨?_, fun x y hy => ?_⟩
                  · rw [wi_ne (by omega), wi_ne (by omega)]
                    exact b1
                  · rw [wi_ne (by omega), wi_ne (by omega)]
                    exact b2 x y hy
                · rw [eG]
                  refine ⟨?_, fun x y hy => ?_⟩
                  · rw [wi_at, List.length_append]
                    rfl
                  · rw [wi_ne (by omega)]
                    by_cases q : x = G.length
                    · subst q
                      rw [List.getElem?_append_right (Nat.le_refl _), Nat.sub_self] at hy
                      cases hy
                      rw [hgg]
                      exact wi_at _ _ _ _
                    · have hx : x < G.length := by
                        have := (List.getElem?_eq_some_iff.mp hy).1
                        rw [List.length_append] at this
                        have : x < G.length + 1 := this
                        omega
                      rw [List.getElem?_append_left hx] at hy
                      rw [wi_ne (by omega)]
                      exact hGi.2 x y hy
              · rw [oN_t (by omega), hGi.1, oN_le (by omega) (by omega)] at z
                rw [hy (by omega)] at eG
                have eG : grA (alB W c i) ((mkW W.1).take (j + 1)) [] = G := eG
                rw [oN_1]
                exact ih2 (j + 1) τ (by omega) (by omega) g hG (by rw [eG]; exact hGi)
            intro r3
            induction r3 with
            | zero =>
              intro g3 hr3 hg3 hpre
              have e3 : g3 = G.length := by omega
              subst e3
              refine S_X23_group_110 Hτ.1 ⟨ib3, fun _ => p166 _ (Nat.le_refl _) (fun z => absurd z (Nat.lt_irrefl _)) (fun _ => ?_), fun z => absurd (by rw [oN_t (by omega), hGi.1]; exact Int32.le_refl _) z⟩
              rw [List.any_eq_false]
              intro y hy z
              obtain ⟨x, hx⟩ := List.getElem?_of_mem hy
              have := hpre x (List.getElem?_eq_some_iff.mp hx).1 y hx
              rw [this] at z
              cases z
            | succ r3 ih3 =>
              intro g3 hr3 hg3 hpre
              have hgl3 : g3 < G.length := by omega
              have eg : G[g3]? = some G[g3] := List.getElem?_eq_getElem hgl3
              have hgk : G[g3] < W.1.length := by
                rcases hgs _ (List.getElem_mem hgl3) with z | z
                · cases z
                · exact mk_lt (List.mem_of_mem_take z)
              refine S_X23_group_110 Hτ.1 ⟨ib3, fun z => ?_, fun _ => ⟨ibc, ib3, ib_oN (by omega) (by decide), ibc, ib3, ib3, ib_oN (by omega) (by decide), ?_, ?_⟩⟩
              · exfalso
                rw [oN_t (by omega), hGi.1, oN_le (by omega) (by omega)] at z
                omega
              · rw [oN_t (by omega), oN_t (by omega), hGi.2 g3 _ eg]
                exact ib_oN (by omega) (by decide)
              · rw [oN_t (by omega), oN_t (by omega), oN_t (by omega), oN_t (by omega), hGi.2 g3 _ eg, oN_t (by omega)]
                refine rf_isAlike (d := d) Hτ hc (by omega) hkl hgk hu ?_
                cases q : alB W c i (mkW W.1)[j] G[g3]
                · refine ⟨fun z => absurd rfl z, fun _ => ?_⟩
                  rw [oN_1]
                  refine ih3 (g3 + 1) (by omega) (by omega) (fun x hx y hy => ?_)
                  by_cases e4 : x = g3
                  · rw [e4, eg] at hy
                    cases hy
                    exact q
                  · exact hpre x (by omega) y hy
                · refine ⟨fun _ => p166 g3 (by omega) (fun _ => List.any_eq_true.mpr ⟨_, List.getElem_mem hgl3, q⟩) (fun z => by omega), fun z => absurd z (by decide)⟩
          refine S_X23_group_89 Hτ.1 ⟨fun z => ?_, fun _ => ⟨ib_oN (by omega) (by decide), ?_⟩⟩
          · exfalso
            rw [Hτ.2.2.1.2.1.1, oN_le (by omega) (by omega)] at z
            omega
          · rw [oN_t (by omega), Hτ.2.2.1.2.1.2 j _ e]
            exact hsrch G.length 0 (by omega) (Nat.zero_le _) (fun x hx => by omega)
      -- what others can fit
      have oth : ∀ r2 j (u : Int64 × Int64) , pl - j = r2 → j ≤ pl → (∀ m, 1 ≤ m → m ≤ 128 → pb u m = (List.range j).all fun j => decide (j = i) || anS W c j m) → B_X23_group_30 Z (d + 2) τ (Int32.ofNat c) (Int32.ofNat pl) (Int32.ofNat i) u.1 u.2 (Int32.ofNat j) K := by
        intro r2
        induction r2 with
        | zero =>
          intro j u hr2 hj hu
          have e : j = pl := by omega
          subst e
          have Hτ := H.lt (fr g)
          refine S_X23_group_30 Hτ.1 ⟨fun _ => ⟨ib3, ?_⟩, fun z => absurd (Int32.le_refl _) z⟩
          rw [oN_t (by omega)]
          refine mks u (fun m h1 h2 => ?_) (mkW W.1).length 0 _ (by omega) (Nat.zero_le _) ⟨g.1, g.2.1, g.2.2.1, fun a ha => ?_⟩ (fun j2 hj2 => ?_) ⟨?_, fun x y hy => by cases hy⟩
          · rw [hu m h1 h2]
            unfold otS
            rw [hp]
          · rw [wi_row (by omega)]
            exact g.2.2.2 a ha
          · obtain ⟨b1, b2⟩ := hG j2 hj2
            refine ⟨?_, fun x y hy => ?_⟩
            · rw [wi_ne (by omega)]
              exact b1
            · rw [wi_ne (by omega)]
              exact b2 x y hy
          · rw [wi_at]
            rfl
        | succ r2 ih2 =>
          intro j u hr2 hj hu
          have Hτ := H.lt (fr g)
          have hjl : j < pl := by omega
          have ibj : ib (Int32.ofNat j) 3 := ib_oN (by omega) (by decide)
          have step : ∀ m, ((List.range (j + 1)).all fun j => decide (j = i) || anS W c j m) = (((List.range j).all fun j => decide (j = i) || anS W c j m) && (decide (j = i) || anS W c j m)) := fun m => by
            rw [List.range_succ, List.all_append]
            congr 1
            simp
          refine S_X23_group_30 Hτ.1 ⟨fun z => ?_, fun _ => ⟨fun z => ⟨ibc, ibj, ibc, ibj, ?_⟩, fun z => ?_⟩⟩
          · exfalso
            rw [oN_le (by omega) (by omega)] at z
            omega
          · have z : j ≠ i := fun q => z (by rw [q])
            rw [oN_1, oN_t (by omega), oN_t (by omega)]
            refine ih2 (j + 1) (anP u (τ.l (2071 + 1 + c) j, τ.l (2096 + 1 + c) j)) (by omega) (by omega) (fun m h1 h2 => ?_)
            rw [pb_an, hu m h1 h2, Hτ.any hc (by omega) h1 h2, step, decide_eq_false z, Bool.false_or]
          · rw [oN_eq (by omega) (by omega)] at z
            rw [oN_1]
            refine ih2 (j + 1) u (by omega) (by omega) (fun m h1 h2 => ?_)
            rw [hu m h1 h2, step, decide_eq_true z, Bool.true_or, Bool.and_true]
      have F := (fr g).fx H.1
      refine S_X23_group_12 F ⟨fun z => ?_, fun _ => ?_⟩
      · exfalso
        rw [oN_le (by omega) (by omega)] at z
        omega
      · exact oth pl 0 (-1, -1) (by omega) (Nat.zero_le _) (fun m h1 h2 => by rw [pb_m1]; rfl)
  refine S_X23_group_0 H.1 ⟨ibc, ?_⟩
  rw [oN_t (by omega), w3]
  exact main pl 0 σ (by omega) (Nat.zero_le _) ⟨rfl, rfl, rfl, fun _ _ => rfl⟩ (fun j hj => by omega)
end GROUP

/-! PURE: rows of a choice -/
section ROWP
variable (nr : Nat → Nat → Int)
/-- none of the others is nearer than the i-th -/
def frB (L : List Nat) (i : Nat) : Bool := (List.range L.length).all fun j => decide (i = j) || decide (nr (L.getD j 0) (L.getD i 0) ≠ -1)
def frI (L : List Nat) : List Nat := (List.range L.length).filter (frB nr L)
def foI : List Nat → Int
  | [] => -1
  | [i] => i
  | _ :: _ :: _ => -2
def leI : List Nat → Int
  | [] => -1
  | i :: _ => i
def pkO (st : Bool) (L : List Nat) : Option Nat := if 0 ≤ foI (frI nr L) then some (foI (frI nr L)).toNat else if st = true then none else some (leI (frI nr L)).toNat
def lyG (st : Bool) : Nat → List Nat → List Nat × Bool
  | 0, _ => ([], false)
  | f + 1, L => if L = [] then ([], false) else match pkO nr st L with
    | none => ([], true)
    | some i => (L.getD i 0 :: (lyG st f (L.eraseIdx i)).1, (lyG st f (L.eraseIdx i)).2)
def rwG (st : Bool) : List (List Nat) → List Nat × Bool
  | [] => ([], false)
  | g :: r => if (lyG nr st g.length g).2 = true then lyG nr st g.length g else ((lyG nr st g.length g).1 ++ (rwG st r).1, (rwG st r).2)
end ROWP
def gpL (ms : List (Mtd × Bool)) (ap : List Nat) (role : Nat) (ly : Int) : List Nat := ap.filter fun m => decide (rlM ms m = role) && decide (lyM ms m = ly)
/-- the layers, the one put on last first; behind them the methods without one -/
def lyS (on : List Nat) : List Int := on.reverse.map (fun l : Nat => (l : Int)) ++ [-1]
theorem foI_r (l : List Nat) (n : Nat) (h : ∀ i ∈ l, i < n) : -2 ≤ foI l ∧ foI l < n := by
  match l, h with
  | [], _ =>
    show (-2 : Int) ≤ -1 ∧ (-1 : Int) < n
    omega
  | [i], h =>
    have := h i (by simp)
    show (-2 : Int) ≤ (i : Int) ∧ (i : Int) < n
    omega
  | _ :: _ :: _, _ =>
    show (-2 : Int) ≤ -2 ∧ (-2 : Int) < n
    omega
theorem foI_snoc (l : List Nat) (i : Nat) : foI (l ++ [i]) = if foI l = -1 then (i : Int) else -2 := by
  match l with
  | [] => rfl
  | [x] =>
    show (-2 : Int) = if (x : Int) = -1 then (i : Int) else -2
    rw [if_neg (by omega)]
  | x :: y :: r =>
    show (-2 : Int) = if (-2 : Int) = -1 then (i : Int) else -2
    rw [if_neg (by decide)]
theorem leI_snoc (l : List Nat) (i : Nat) : leI (l ++ [i]) = if leI l < 0 then (i : Int) else leI l := by
  match l with
  | [] => rfl
  | x :: r =>
    show (x : Int) = if (x : Int) < 0 then (i : Int) else (x : Int)
    rw [if_neg (by omega)]
theorem leI_r (l : List Nat) (n : Nat) (h : ∀ i ∈ l, i < n) : -1 ≤ leI l ∧ leI l < n := by
  match l, h with
  | [], _ =>
    show (-1 : Int) ≤ -1 ∧ (-1 : Int) < n
    omega
  | i :: r, h =>
    have := h i (by simp)
    show (-1 : Int) ≤ (i : Int) ∧ (i : Int) < n
    omega
theorem frI_lt {nr : Nat → Nat → Int} {L : List Nat} : ∀ i ∈ frI nr L, i < L.length := fun i hi => List.mem_range.mp (List.mem_filter.mp hi).1
/-! THE REFERENCE: frames of choosing -/
def GF (E : Nat → Nat → Prop) (σ τ : Sg) : Prop := τ.sh = σ.sh ∧ (∀ a k, ¬ (a = 0 ∧ k = 51) → τ.r a k = σ.r a k) ∧ (∀ a k, ¬ E a k → ¬ (a = 0 ∧ (k = 47 ∨ k = 48 ∨ k = 50 ∨ k = 53 ∨ k = 54)) → ¬ (1933 ≤ a ∧ a ≤ 1935) → ¬ (2067 ≤ a ∧ a ≤ 2070) → τ.i a k = σ.i a k) ∧ ∀ a, ¬ (1936 ≤ a ∧ a ≤ 2066) → τ.l a = σ.l a
/-- what choosing may write -/
def chE (a k : Nat) : Prop := (a = 0 ∧ 73 ≤ k ∧ k ≤ 75) ∨ a = 2130 ∨ a = 2131 ∨ (2981 ≤ a ∧ a < 3365)
section GF
variable {E E' : Nat → Nat → Prop} {σ τ υ : Sg}
theorem GF.refl (E : Nat → Nat → Prop) (σ : Sg) : GF E σ σ := ⟨rfl, fun _ _ _ => rfl, fun _ _ _ _ _ _ => rfl, fun _ _ => rfl⟩
theorem GF.tr (h : GF E σ τ) (g : GF E τ υ) : GF E σ υ := ⟨g.1.trans h.1, fun a k q => (g.2.1 a k q).trans (h.2.1 a k q), fun a k h0 h1 h2 h3 => (g.2.2.1 a k h0 h1 h2 h3).trans (h.2.2.1 a k h0 h1 h2 h3), fun a h1 => (g.2.2.2 a h1).trans (h.2.2.2 a h1)⟩
theorem GF.le (h : GF E σ τ) (hE : ∀ a k, E a k → E' a k) : GF E' σ τ := ⟨h.1, h.2.1, fun a k h0 h1 h2 h3 => h.2.2.1 a k (fun q => h0 (hE a k q)) h1 h2 h3, h.2.2.2⟩
theorem NrF.gf (h : NrF σ τ) (E : Nat → Nat → Prop) : GF E σ τ := ⟨h.1, h.2.1, fun a k _ h1 h2 h3 => h.2.2.1 a k h1 h2 h3, h.2.2.2⟩
theorem GF.wi {a k : Nat} {v : Int32} (h : E a k) : GF E σ (σ.wi a k v) := ⟨rfl, fun _ _ _ => rfl, fun x y h0 _ _ _ => wi_ne (fun q => h0 (by rw [q.1, q.2]; exact h)), fun _ _ => rfl⟩
theorem GF.row (h : GF E σ τ) {a : Nat} (hE : ∀ k, ¬ E a k) (h0 : a ≠ 0) (h1 : ¬ (1933 ≤ a ∧ a ≤ 1935)) (h2 : ¬ (2067 ≤ a ∧ a ≤ 2070)) : τ.i a = σ.i a := funext fun k => h.2.2.1 a k (hE k) (fun q => h0 q.1) h1 h2
theorem NwS.gf {W : Wld} {lst : List Nat} {b wy : Nat} (h : NwS W lst b wy σ) (g : GF E σ τ) (hE : ∀ a k, E a k → chE a k) (hF : FX ΦR τ.sh τ.r) : NwS W lst b wy τ := by
  obtain ⟨h1, h2, ⟨h3, h3'⟩, h4, h5, h6, h7⟩ := h
  have hk := h2.1.2.1
  have hc := h2.2.1.2.1
  have hl := h2.2.2.2.1
  have nE : ∀ a k, ¬ chE a k → ¬ E a k := fun a k q z => q (hE a k z)
  have row : ∀ a, a ≠ 0 → ¬ (1933 ≤ a ∧ a ≤ 1935) → ¬ (2067 ≤ a ∧ a ≤ 2070) → a ≠ 2130 → a ≠ 2131 → ¬ (2981 ≤ a ∧ a < 3365) → τ.i a = σ.i a := fun a q0 q1 q2 q3 q4 q5 => g.row (fun k => nE a k (by unfold chE; omega)) q0 q1 q2
  have z0 : ∀ k, ¬ (73 ≤ k ∧ k ≤ 75) → ¬ (k = 47 ∨ k = 48 ∨ k = 50 ∨ k = 53 ∨ k = 54) → τ.i 0 k = σ.i 0 k := fun k q1 q2 => g.2.2.1 0 k (nE 0 k (by unfold chE; omega)) (by omega) (by omega) (by omega)
  refine ⟨hF, h2.keep (fun a ha => row a (by omega) (by omega) (by omega) (by omega) (by omega) (by omega)) (z0 4 (by decide) (by decide)) (z0 5 (by decide) (by decide)) (z0 7 (by decide) (by decide)), ⟨(z0 6 (by decide) (by decide)).trans h3, h3'⟩, fun j x hx => ?_, fun a b ha hb => ?_, ⟨(z0 83 (by decide) (by decide)).trans h6, h7⟩⟩
  · have hj := (List.getElem?_eq_some_iff.mp hx).1
    refine (h4 j x hx).mono (fun _ _ z => z) (fun a a1 a2 => row a (by omega) (by omega) (by omega) (by omega) (by omega) (by omega)) (funext fun k => g.2.1 _ k (by omega)) (fun y hy hys => ?_)
    have := nd_ge h1 hys
    exact ⟨hy, by rw [g.1]; exact hys, row y (by omega) (by omega) (by omega) (by omega) (by omega) (by omega), g.2.2.2 y (by omega), funext fun k => g.2.1 y k (by omega)⟩
  · rw [row _ (by omega) (by omega) (by omega) (by omega) (by omega) (by omega)]
    exact h5 a b ha hb
theorem KnS.gf {kA kn pl : Nat} {k : Nat → Nat} (h : KnS kA k kn pl σ) (g : GF E σ τ) (hE : ∀ a k, E a k → chE a k) (hA : kA ≠ 2130 ∧ kA ≠ 2131 ∧ ¬ (2981 ≤ kA ∧ kA < 3365)) : KnS kA k kn pl τ := by
  obtain ⟨⟨h1, h2, h3, h4⟩, h5, h6⟩ := h
  refine ⟨⟨by rw [g.1]; exact h1, h2, h3, h4⟩, fun i hi => ?_, h6⟩
  rw [g.row (fun k z => ?_) h2 h3 h4]
  · exact h5 i hi
  · have := hE _ _ z
    unfold chE at this
    omega
theorem MmR.same {W : Wld} {wy : Nat} (h : MmR W wy σ) (h1 : τ.i 2069 = σ.i 2069) (h2 : τ.i 2070 = σ.i 2070) : MmR W wy τ := fun a m n k q1 q2 q3 q4 q5 q6 q7 => by
  rw [h1] at q7
  rw [h2]
  exact h a m n k q1 q2 q3 q4 q5 q6 q7
end GF
/-- the methods left -/
def LfS (σ : Sg) (L : List Nat) : Prop := σ.i 0 74 = Int32.ofNat L.length ∧ L.length ≤ 120 ∧ ∀ (i x : Nat), L[i]? = some x → σ.i 2131 i = Int32.ofNat x
section FIRST
variable {Z : zT} {d : Nat} {W : Wld} {lst : List Nat} {b wy : Nat} {σ τ : Sg} {K : kS} {kA c : Nat} {k : Nat → Nat} {L : List Nat}
theorem LfS.gf {E : Nat → Nat → Prop} (h : LfS σ L) (g : GF E σ τ) (hE : ∀ a k, E a k → chE a k) (h1 : ∀ k, ¬ E 2131 k) (h2 : ¬ E 0 74) : LfS τ L := by
  obtain ⟨a1, a2, a3⟩ := h
  refine ⟨(g.2.2.1 0 74 h2 (by decide) (by decide) (by decide)).trans a1, a2, fun i x hx => ?_⟩
  rw [g.row h1 (by decide) (by decide) (by decide)]
  exact a3 i x hx
/-- firstOf() -/
theorem rf_firstOf (hW : WfW W) (hd : 240 ≤ d) (H : NwS W lst b wy σ) (M : MmR W wy σ) (hL : LfS σ L) (hm : ∀ x ∈ L, (1 ≤ x ∧ x ≤ W.2.2.2.length) ∧ mcW W.2.2.2 x = c) (hA : kA ≠ 2130 ∧ kA ≠ 2131 ∧ ¬ (2981 ≤ kA ∧ kA < 3365)) (hk : KnS kA k W.1.length (plW W.2.1 c) σ)
    (h : ∀ τ, FX ΦR τ.sh τ.r → GF (fun a j => a = 0 ∧ j = 75) σ τ → MmR W wy τ → τ.i 0 75 = Int32.ofInt (leI (frI (fun x y => nrI W wy x y k) L)) → K (.inl (some (.int (Int32.ofInt (foI (frI (fun x y => nrI W wy x y k) L)))))) τ) : B_X23_firstOf_0 Z d σ kA K := by
  obtain ⟨d, rfl⟩ : ∃ e, d = e + 1 := ⟨d - 1, by omega⟩
  have hE : ∀ a j, (a = 0 ∧ j = 75) → chE a j := fun a j q => by unfold chE; omega
  have h120 := hL.2.1
  have hm120 := H.2.2.1.2
  have gt : ∀ j, j < L.length → L[j]? = some (L.getD j 0) := fun j hj => by
    rw [List.getD_eq_getElem?_getD, List.getElem?_eq_getElem hj]
    rfl
  generalize hnr : (fun x y => nrI W wy x y k) = nr at *
  have hnr2 : ∀ x y, nr x y = nrI W wy x y k := fun x y => by rw [← hnr]
  -- whether the i-th is free
  have inner : ∀ i fo, i < L.length → (∀ τ, FX ΦR τ.sh τ.r → GF (fun a j => a = 0 ∧ j = 75) σ τ → MmR W wy τ → τ.i 0 75 = Int32.ofInt (leI ((List.range i).filter (frB nr L))) → B_X23_firstOf_78 Z (d + 1) τ kA fo (Int32.ofNat i) (if frB nr L i = true then 1 else 0) K) → ∀ r j τ, L.length - j = r → j ≤ L.length → FX ΦR τ.sh τ.r → GF (fun a j => a = 0 ∧ j = 75) σ τ → MmR W wy τ → τ.i 0 75 = Int32.ofInt (leI ((List.range i).filter (frB nr L))) → B_X23_firstOf_23 Z (d + 1) τ kA fo (Int32.ofNat i) (if ((List.range j).all fun j => decide (i = j) || decide (nr (L.getD j 0) (L.getD i 0) ≠ -1)) = true then 1 else 0) (Int32.ofNat j) K := by
    intro i fo hi nx r
    induction r with
    | zero =>
      intro j τ hr hj F g Mτ e75
      have e : j = L.length := by omega
      subst e
      have Lτ := hL.gf g hE (fun k z => by omega) (by omega)
      exact S_X23_firstOf_23 F ⟨fun _ => nx τ F g Mτ e75, fun z => absurd (by rw [Lτ.1]; exact Int32.le_refl _) z⟩
    | succ r ih =>
      intro j τ hr hj F g Mτ e75
      have hlt : j < L.length := by omega
      have Lτ := hL.gf g hE (fun k z => by omega) (by omega)
      have eall : ((List.range (j + 1)).all fun j => decide (i = j) || decide (nr (L.getD j 0) (L.getD i 0) ≠ -1)) = (((List.range j).all fun j => decide (i = j) || decide (nr (L.getD j 0) (L.getD i 0) ≠ -1)) && (decide (i = j) || decide (nr (L.getD j 0) (L.getD i 0) ≠ -1))) := by
        rw [List.range_succ, List.all_append]
        congr 1
        simp
      refine S_X23_firstOf_23 F ⟨fun z => ?_, fun _ => ⟨fun z => ?_, fun z => ⟨fun y => ?_, fun y => ⟨ib_oN (by omega) (by decide), ib_oN (by omega) (by decide), ?_⟩⟩⟩⟩
      · exfalso
        rw [Lτ.1, oN_le (by omega) (by omega)] at z
        omega
      · have hf : ((List.range j).all fun j => decide (i = j) || decide (nr (L.getD j 0) (L.getD i 0) ≠ -1)) = false := by
          cases q : ((List.range j).all fun j => decide (i = j) || decide (nr (L.getD j 0) (L.getD i 0) ≠ -1)) with
          | false => rfl
          | true =>
            rw [q] at z
            exact absurd z (by decide)
        have hfr : frB nr L i = false := by
          unfold frB
          rw [List.all_eq_false] at hf ⊢
          obtain ⟨x, hx, q⟩ := hf
          exact ⟨x, List.mem_range.mpr (by have := List.mem_range.mp hx; omega), q⟩
        have := nx τ F g Mτ e75
        rw [hfr] at this
        rw [hf]
        exact this
      · have hf : ((List.range j).all fun j => decide (i = j) || decide (nr (L.getD j 0) (L.getD i 0) ≠ -1)) = true := by
          cases q : ((List.range j).all fun j => decide (i = j) || decide (nr (L.getD j 0) (L.getD i 0) ≠ -1)) with
          | true => rfl
          | false =>
            rw [q] at z
            exact absurd rfl z
        rw [oN_eq (by omega) (by omega)] at y
        rw [hf, Bool.true_and, decide_eq_true y, Bool.true_or] at eall
        have := ih (j + 1) τ (by omega) (by omega) F g Mτ e75
        rw [eall] at this
        rw [oN_1]
        exact this
      · have hf : ((List.range j).all fun j => decide (i = j) || decide (nr (L.getD j 0) (L.getD i 0) ≠ -1)) = true := by
          cases q : ((List.range j).all fun j => decide (i = j) || decide (nr (L.getD j 0) (L.getD i 0) ≠ -1)) with
          | true => rfl
          | false =>
            rw [q] at z
            exact absurd rfl z
        rw [oN_eq (by omega) (by omega)] at y
        rw [hf, Bool.true_and, decide_eq_false y, Bool.false_or] at eall
        rw [oN_t (by omega), oN_t (by omega), Lτ.2.2 j _ (gt j hlt), Lτ.2.2 i _ (gt i hi)]
        have mj := hm _ (List.mem_of_getElem? (gt j hlt))
        have mi := hm _ (List.mem_of_getElem? (gt i hi))
        have Hτ := H.gf g hE F
        have kτ := hk.gf g hE hA
        rw [← mj.2] at kτ
        refine rf_nearer hW (by omega) Hτ Mτ mj.1 mi.1 (by rw [mi.2, mj.2]) kτ (fun υ Fυ gυ Mυ => ?_)
        have nxt := ih (j + 1) υ (by omega) (by omega) Fυ (g.tr (gυ.gf _)) Mυ ((gυ.2.2.1 0 75 (by decide) (by decide) (by decide)).trans e75)
        rw [eall, hnr2] at nxt
        have rr := nrI_r W wy (L.getD j 0) (L.getD i 0) k
        rw [oN_1]
        generalize nrI W wy (L.getD j 0) (L.getD i 0) k = q at *
        refine ⟨fun w => ?_, fun w => ?_⟩
        · have w := congrArg Int32.toInt w
          rw [oI_i (by omega) (by omega)] at w
          have w : q = -1 := w
          rw [decide_eq_false (by rw [w]; exact fun z => z rfl)] at nxt
          exact nxt
        · have w : q ≠ -1 := fun z => w (by rw [z]; rfl)
          rw [decide_eq_true w] at nxt
          exact nxt
  have outer : ∀ r i τ, L.length - i = r → i ≤ L.length → FX ΦR τ.sh τ.r → GF (fun a j => a = 0 ∧ j = 75) σ τ → MmR W wy τ → τ.i 0 75 = Int32.ofInt (leI ((List.range i).filter (frB nr L))) → B_X23_firstOf_9 Z (d + 1) τ kA (Int32.ofInt (foI ((List.range i).filter (frB nr L)))) (Int32.ofNat i) K := by
    intro r
    induction r with
    | zero =>
      intro i τ hr hi F g Mτ e75
      have e : i = L.length := by omega
      subst e
      have Lτ := hL.gf g hE (fun k z => by omega) (by omega)
      exact S_X23_firstOf_9 F ⟨fun _ => h τ F g Mτ e75, fun z => absurd (by rw [Lτ.1]; exact Int32.le_refl _) z⟩
    | succ r ih =>
      intro i τ hr hi F g Mτ e75
      have hlt : i < L.length := by omega
      have Lτ := hL.gf g hE (fun k z => by omega) (by omega)
      refine S_X23_firstOf_9 F ⟨fun z => ?_, fun _ => ?_⟩
      · exfalso
        rw [Lτ.1, oN_le (by omega) (by omega)] at z
        omega
      · refine inner i _ hlt (fun υ Fυ gυ Mυ eυ => ?_) L.length 0 τ (by omega) (Nat.zero_le _) F g Mτ e75
        have hlo : ∀ x ∈ (List.range i).filter (frB nr L), x < i := fun x hx => List.mem_range.mp (List.mem_filter.mp hx).1
        have fr := foI_r _ i hlo
        have lr := leI_r _ i hlo
        by_cases hfr : frB nr L i = true
        · have ef : (List.range (i + 1)).filter (frB nr L) = (List.range i).filter (frB nr L) ++ [i] := by
            rw [List.range_succ, List.filter_append, List.filter_cons, if_pos hfr]
            rfl
          rw [if_pos hfr]
          have nx := fun υ a1 a2 a3 a4 => ih (i + 1) υ (by omega) (by omega) a1 a2 a3 a4
          rw [ef, foI_snoc, leI_snoc] at nx
          have p98 : ∀ υ, FX ΦR υ.sh υ.r → GF (fun a j => a = 0 ∧ j = 75) σ υ → MmR W wy υ → υ.i 0 75 = Int32.ofInt (if leI ((List.range i).filter (frB nr L)) < 0 then (i : Int) else leI ((List.range i).filter (frB nr L))) → B_X23_firstOf_98 Z (d + 1) υ kA (Int32.ofInt (foI ((List.range i).filter (frB nr L)))) (Int32.ofNat i) K := by
            intro υ b1 b2 b3 b4
            have nxt := nx υ b1 b2 b3 b4
            refine S_X23_firstOf_98 b1 ⟨fun z => ?_, fun z => ?_⟩
            · rw [if_neg (fun q => z (by rw [q]; rfl))] at nxt
              rw [oN_1]
              exact nxt
            · have z := congrArg Int32.toInt z
              rw [oI_i (by omega) (by omega)] at z
              have z : foI ((List.range i).filter (frB nr L)) = -1 := z
              rw [if_pos z] at nxt
              rw [oN_1]
              exact nxt
          refine S_X23_firstOf_78 Fυ ⟨fun _ => ⟨fun z => ?_, fun z => ?_⟩, fun z => absurd z (by decide)⟩
          · rw [eυ, Int32.le_iff_toInt_le, oI_i (by omega) (by omega)] at z
            have z : 0 ≤ leI ((List.range i).filter (frB nr L)) := z
            exact p98 υ Fυ gυ Mυ (by rw [if_neg (by omega)]; exact eυ)
          · rw [eυ, Int32.le_iff_toInt_le, oI_i (by omega) (by omega)] at z
            have z : ¬ 0 ≤ leI ((List.range i).filter (frB nr L)) := z
            exact p98 (υ.wi 0 75 (Int32.ofNat i)) Fυ (gυ.tr (GF.wi ⟨rfl, rfl⟩)) (Mυ.same (wi_row (by decide)) (wi_row (by decide))) (by rw [wi_at, if_pos (by omega)]; rfl)
        · have ef : (List.range (i + 1)).filter (frB nr L) = (List.range i).filter (frB nr L) := by
            rw [List.range_succ, List.filter_append, List.filter_cons, if_neg hfr]
            exact List.append_nil _
          rw [if_neg hfr]
          refine S_X23_firstOf_78 Fυ ⟨fun z => absurd rfl z, fun _ => ?_⟩
          have := ih (i + 1) υ (by omega) (by omega) Fυ gυ Mυ (by rw [ef]; exact eυ)
          rw [ef] at this
          rw [oN_1]
          exact this
  exact S_X23_firstOf_0 H.1 (outer L.length 0 (σ.wi 0 75 (-1 : Int32)) (by omega) (Nat.zero_le _) H.1 (GF.wi ⟨rfl, rfl⟩) (M.same (wi_row (by decide)) (wi_row (by decide))) (wi_at _ _ _ _))
end FIRST

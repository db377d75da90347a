/-! THE CLASS: kinds; the row by way 0, whole -/
theorem hd_some {LL : List (List Nat)} {y : Nat} (h : LL.findSome? (hdM LL) = some y) : (∃ l ∈ LL, l.head? = some y) ∧ ∀ l ∈ LL, y ∉ l.tail := by
  obtain ⟨l, hl, e⟩ := List.exists_of_findSome?_eq_some h
  cases l with
  | nil => cases e
  | cons a r =>
    unfold hdM at e
    dsimp only at e
    by_cases z : LL.any (fun l => l.tail.contains a) = true
    · rw [if_pos z] at e
      cases e
    · rw [if_neg z] at e
      have e := Option.some.inj e
      subst e
      refine ⟨⟨_, hl, rfl⟩, fun l' hl' q => z ?_⟩
      rw [List.any_eq_true]
      exact ⟨l', hl', by simpa using q⟩
theorem mg_mem {LL : List (List Nat)} {y : Nat} (h : LL.findSome? (hdM LL) = some y) (z : Nat) : (∃ l ∈ LL.map (fun l => if l.head? = some y then l.tail else l), z ∈ l) ↔ z ≠ y ∧ ∃ l ∈ LL, z ∈ l := by
  obtain ⟨-, h2⟩ := hd_some h
  constructor
  · intro ⟨l', hl', hz⟩
    obtain ⟨l, hl, rfl⟩ := List.mem_map.mp hl'
    by_cases q : l.head? = some y
    · rw [if_pos q] at hz
      exact ⟨fun e => h2 l hl (by rw [← e]; exact hz), l, hl, List.mem_of_mem_tail hz⟩
    · rw [if_neg q] at hz
      refine ⟨fun e => ?_, l, hl, hz⟩
      subst e
      cases l with
      | nil => cases hz
      | cons a r =>
        rcases List.mem_cons.mp hz with e | e
        · exact q (by rw [e]; rfl)
        · exact h2 _ hl e
  · intro ⟨ne, l, hl, hz⟩
    refine ⟨_, List.mem_map.mpr ⟨l, hl, rfl⟩, ?_⟩
    by_cases q : l.head? = some y
    · rw [if_pos q]
      cases l with
      | nil => cases hz
      | cons a r =>
        have e : a = y := Option.some.inj q
        rcases List.mem_cons.mp hz with e2 | e2
        · exact absurd (e2.trans e) ne
        · exact e2
    · rw [if_neg q]
      exact hz
theorem mg_0 {LL : List (List Nat)} (h : ∀ y, ¬ ∃ l ∈ LL, y ∈ l) : ∀ f, mgL f LL = ([], true) := by
  have e0 : ∀ l ∈ LL, l = [] := fun l hl => by
    cases l with
    | nil => rfl
    | cons a r => exact absurd ⟨_, hl, List.mem_cons_self⟩ (h a)
  have e1 : LL.all (·.isEmpty) = true := List.all_eq_true.mpr fun l hl => by rw [e0 l hl]; rfl
  have e2 : LL.findSome? (hdM LL) = none := List.findSome?_eq_none_iff.mpr fun l hl => by rw [e0 l hl]; rfl
  intro f
  cases f with
  | zero => rw [mgL, e1]
  | succ f => rw [mgL, e2]; exact Prod.ext rfl e1
section MR2
variable {Z : zT} {d : Nat} {σ τ υ : Sg} {K : kS} {ks : List Knd} {ps : List Nat} {k : Nat}
/-- kind k's row so far -/
def RwC (w k : Nat) (L : List Nat) (σ : Sg) : Prop := ∀ (i : Nat) y, L[i]? = some y → σ.i 7 ((w * 24 + k) * 24 + i) = Int32.ofNat y
theorem RwC.snoc {w : Nat} {L : List Nat} {y : Nat} (h : RwC w k L σ) : RwC w k (L ++ [y]) (σ.wi 7 ((w * 24 + k) * 24 + L.length) (Int32.ofNat y)) := fun i z hz => by
  by_cases q : i < L.length
  · rw [List.getElem?_append_left q] at hz
    exact (wi_ne (by omega)).trans (h i z hz)
  · have hk := (List.getElem?_eq_some_iff.mp hz).1
    rw [List.length_append, List.length_singleton] at hk
    have e : i = L.length := by omega
    subst e
    rw [List.getElem?_append_right (Nat.le_refl _), Nat.sub_self] at hz
    have e : y = z := Option.some.inj hz
    subst e
    exact wi_eq
theorem mg_go (X : KxS ks ps k σ) : ∀ m (L D : List Nat) (fr : Nat → Nat) (τ : Sg) (f : Nat), D.length = m → D.Nodup → (∀ y, y ∈ D ↔ ∃ l ∈ rmM (ps.map (rwW ks 0) ++ [ps]) fr, y ∈ l) → (∀ y ∈ D, y < k) → KF k σ τ → (∀ a, a ≠ 7 → a ≠ 9 → τ.i a = σ.i a) → MgC (ps.map (rwW ks 0) ++ [ps]) fr τ → σ.i 5 k = Int32.ofNat (L.length + m) → RwC 0 k L τ → L.length + m ≤ 24 → m ≤ f → (∀ υ r, KF k σ υ → (∀ a, a ≠ 7 → a ≠ 9 → υ.i a = σ.i a) → RwC 0 k (L ++ r) υ → mgL f (rmM (ps.map (rwW ks 0) ++ [ps]) fr) = (r, true) → r.Nodup → (∀ y, y ∈ r ↔ y ∈ D) → K (.inl (some (.int 1))) υ) → (∀ υ r, KF k σ υ → (∀ a, a ≠ 7 → a ≠ 9 → υ.i a = σ.i a) → mgL f (rmM (ps.map (rwW ks 0) ++ [ps]) fr) = (r, false) → K (.inl (some (.int 0))) υ) → C_X2_merge_18 Z (d + 4) τ (Int32.ofNat k) (Int32.ofNat L.length) K := by
  have hk := X.2.2.1
  intro m
  induction m with
  | zero =>
    intro L D fr τ f hD nd hDm hDk hF h5 hM e5 hR hl hf k1 k0
    have X1 := X.kf hF
    refine T_X2_merge_18 X1.1 ⟨ib_oN (by omega) (by omega), ?_⟩
    rw [oN_t (by omega), h5 5 (by decide) (by decide), e5, oN_le (by omega) (by omega)]
    refine ⟨fun _ => ?_, fun z => absurd (by omega) z⟩
    have eD : D = [] := List.length_eq_zero_iff.mp hD
    subst eD
    refine k1 τ [] hF h5 (by rw [List.append_nil]; exact hR) (mg_0 (fun y q => ?_) f) List.nodup_nil (fun y => Iff.rfl)
    have := (hDm y).mpr q
    cases this
  | succ m ih =>
    intro L D fr τ f hD nd hDm hDk hF h5 hM e5 hR hl hf k1 k0
    have X1 := X.kf hF
    refine T_X2_merge_18 X1.1 ⟨ib_oN (by omega) (by omega), ?_⟩
    rw [oN_t (by omega), h5 5 (by decide) (by decide), e5, oN_le (by omega) (by omega)]
    refine ⟨fun z => absurd z (by omega), fun _ => T_X2_firstFreeHead_0 X1.1 (ff_2 X1 hM (fun j y hc hno hyk => ⟨fun _ => ?_, fun z => absurd ?_ z⟩) (fun hno => ⟨fun z => absurd z (by decide), fun _ => ?_⟩) _ 0 rfl (Nat.zero_le _) (fun j' y' q => by omega))⟩
    · -- one is free
      obtain ⟨g, rfl⟩ : ∃ g, f = g + 1 := ⟨f - 1, by omega⟩
      have fs : (rmM (ps.map (rwW ks 0) ++ [ps]) fr).findSome? (hdM (rmM (ps.map (rwW ks 0) ++ [ps]) fr)) = some y := fs_some ((can_iff _ _ _ _).mp hc) (fun j' b' q1 q2 => hno j' b' q1 ((can_iff _ _ _ _).mpr q2))
      have ey : y ∈ D := (hDm y).mpr (by
        obtain ⟨⟨l, a1, a2⟩, -⟩ := hd_some fs
        exact ⟨l, a1, List.mem_of_mem_head? a2⟩)
      have mgs : ∀ r b, mgL g (rmM (ps.map (rwW ks 0) ++ [ps]) (frD (ps.map (rwW ks 0) ++ [ps]) fr y)) = (r, b) → mgL (g + 1) (rmM (ps.map (rwW ks 0) ++ [ps]) fr) = (y :: r, b) := fun r b e => by
        rw [rm_step] at e
        rw [mgL, fs]
        dsimp only
        rw [e]
      refine cl_putR (w := 0) (p := k) (i := L.length) X1.1 (by omega) (by decide) (by omega) ?_
      have kf1 : KF k τ (τ.wi 7 ((0 * 24 + k) * 24 + L.length) (Int32.ofNat y)) := KF.rw (by omega) (by omega)
      have X2 := X1.kf kf1
      refine mg_50 (fr := fr) (σ0 := τ.wi 7 ((0 * 24 + k) * 24 + L.length) (Int32.ofNat y)) X2 hyk (fun υ hu h7 hMu => ?_) _ 0 _ rfl (Nat.zero_le _) (KF.refl _ _) (fun _ _ => rfl) (fun j' l' hl' => ?_)
      · rw [oN_1]
        have e : L.length + 1 = (L ++ [y]).length := by rw [List.length_append]; rfl
        rw [e]
        refine ih (L ++ [y]) (D.erase y) _ υ g (by rw [List.length_erase_of_mem ey, hD]; rfl) (nd.erase y) (fun z => ?_) (fun z hz => hDk z (List.mem_of_mem_erase hz)) ((hF.tr kf1).tr hu) ?_ hMu (by rw [e5, ← e]; congr 1; omega) ?_ (by rw [← e]; omega) (by omega) (fun υ' r a1 a2 a3 a4 a5 a6 => ?_) (fun υ' r a1 a2 a3 => ?_)
        · rw [rm_step, mg_mem fs z, nd.mem_erase_iff, hDm z]
        · intro a q1 q2
          exact (h7 a q2).trans ((wi_row q1).trans (h5 a q1 q2))
        · intro i z hz
          rw [h7 7 (by decide)]
          exact hR.snoc i z hz
        · refine k1 υ' (y :: r) a1 a2 (by rw [List.append_assoc] at a3; exact a3) (mgs r true a4) (List.nodup_cons.mpr ⟨fun q => ?_, a5⟩) (fun z => ?_)
          · have := (a6 y).mp q
            rw [nd.mem_erase_iff] at this
            exact this.1 rfl
          · rw [List.mem_cons, a6 z, nd.mem_erase_iff]
            constructor
            · intro q
              rcases q with q | q
              · rw [q]
                exact ey
              · exact q.2
            · intro q
              by_cases e : z = y
              · exact Or.inl e
              · exact Or.inr ⟨e, q⟩
        · exact k0 υ' (y :: r) a1 a2 (mgs r false a3)
      · have := hM j' l' hl'
        simp only [if_neg (Nat.not_lt_zero j')]
        exact ⟨(wi_ne (by omega)).trans this.1, this.2⟩
    · rw [show (0 : Int32) = Int32.ofNat 0 from rfl, oN_le (by decide) (by omega)]
      exact Nat.zero_le _
    · -- none is
      obtain ⟨g, rfl⟩ : ∃ g, f = g + 1 := ⟨f - 1, by omega⟩
      have fs : (rmM (ps.map (rwW ks 0) ++ [ps]) fr).findSome? (hdM (rmM (ps.map (rwW ks 0) ++ [ps]) fr)) = none := fs_none (fun j b q => hno j b ((can_iff _ _ _ _).mpr q))
      refine k0 τ [] hF h5 ?_
      rw [mgL, fs]
      refine Prod.ext rfl ?_
      show (rmM (ps.map (rwW ks 0) ++ [ps]) fr).all (·.isEmpty) = false
      cases D with
      | nil => cases hD
      | cons a r =>
        obtain ⟨l, hl1, hl2⟩ := (hDm a).mp List.mem_cons_self
        cases h : (rmM (ps.map (rwW ks 0) ++ [ps]) fr).all (·.isEmpty) with
        | false => rfl
        | true =>
          have := List.all_eq_true.mp h l hl1
          cases l with
          | nil => cases hl2
          | cons b r => cases this
end MR2

/-! THE ROWS OF A KIND, AS FUNCTIONS -/
def jn1 (L : List Nat) (y : Nat) : List Nat := if y ∈ L then L else L ++ [y]
def jn2 (L : List Nat) (y : Nat) : List Nat := if y ∈ L then L.erase y ++ [y] else L ++ [y]
def hdM (LL : List (List Nat)) : List Nat → Option Nat
  | [] => none
  | y :: _ => if LL.any (fun l => l.tail.contains y) = true then none else some y
def mgL : Nat → List (List Nat) → List Nat × Bool
  | 0, LL => ([], LL.all (·.isEmpty))
  | f + 1, LL => match LL.findSome? (hdM LL) with
    | some y => (y :: (mgL f (LL.map fun l => if l.head? = some y then l.tail else l)).1, (mgL f (LL.map fun l => if l.head? = some y then l.tail else l)).2)
    | none => ([], LL.all (·.isEmpty))
theorem er_pos {L : List Nat} {y pos : Nat} (h : Pos L y pos) (hl : pos < L.length) : L.eraseIdx pos = L.erase y := by
  obtain ⟨h1, h2, h3⟩ := h
  have hy := h3 hl
  have hn : y ∉ L.take pos := by
    intro z
    obtain ⟨i, hi⟩ := List.mem_iff_getElem?.mp z
    have hi2 : i < pos := by
      have := (List.getElem?_eq_some_iff.mp hi).1
      rw [List.length_take] at this
      omega
    rw [List.getElem?_take, if_pos hi2] at hi
    exact h2 i hi2 hi
  have e : L = L.take pos ++ y :: L.drop (pos + 1) := by
    have e1 : L.drop pos = y :: L.drop (pos + 1) := by
      rw [List.drop_eq_getElem_cons hl]
      congr 1
      exact Option.some.inj ((List.getElem?_eq_getElem hl).symm.trans hy)
    rw [← e1, List.take_append_drop]
  rw [List.eraseIdx_eq_take_drop_succ]
  conv => rhs; rw [e]
  rw [List.erase_append_right _ hn, List.erase_cons_head]
theorem jn_1 {L L' : List Nat} {y : Nat} (h : Jn 1 L y L') : L' = jn1 L y := by
  unfold jn1
  rcases h with ⟨h1, h2⟩ | ⟨h1, -, h2⟩ | ⟨h1, -⟩
  · rw [if_neg h1]
    exact h2
  · rw [if_pos h1]
    exact h2
  · exact absurd rfl h1
theorem jn_2 {L L' : List Nat} {y : Nat} (h : Jn 2 L y L') : L' = jn2 L y := by
  unfold jn2
  rcases h with ⟨h1, h2⟩ | ⟨-, h1, -⟩ | ⟨-, pos, h1, h2, h3⟩
  · rw [if_neg h1]
    exact h2
  · exact absurd h1 (by decide)
  · rw [if_pos (List.mem_iff_getElem?.mpr ⟨pos, h2.2.2 h1⟩), ← er_pos h2 h1]
    exact h3
theorem jnF_1 : ∀ {ys L L' : List Nat}, JnF 1 L ys L' → L' = ys.foldl jn1 L
  | [], L, L', h => h
  | y :: ys, L, L', h => by
    obtain ⟨L1, h1, h2⟩ := h
    rw [List.foldl_cons, ← jn_1 h1]
    exact jnF_1 h2
theorem jnF_2 : ∀ {ys L L' : List Nat}, JnF 2 L ys L' → L' = ys.foldl jn2 L
  | [], L, L', h => h
  | y :: ys, L, L', h => by
    obtain ⟨L1, h1, h2⟩ := h
    rw [List.foldl_cons, ← jn_2 h1]
    exact jnF_2 h2
/-- what is left of the lists -/
def rmM (LL : List (List Nat)) (fr : Nat → Nat) : List (List Nat) := LL.mapIdx fun j l => l.drop (fr j)
theorem rm_get (LL : List (List Nat)) (fr : Nat → Nat) (j : Nat) : (rmM LL fr)[j]? = (LL[j]?).map fun l => l.drop (fr j) := List.getElem?_mapIdx
theorem bh_iff (LL : List (List Nat)) (fr : Nat → Nat) (y : Nat) : Bhd LL fr 0 y ↔ (rmM LL fr).any (fun l => l.tail.contains y) = true := by
  rw [List.any_eq_true]
  constructor
  · rintro ⟨j, l, i, -, h1, h2, h3⟩
    refine ⟨l.drop (fr j), List.mem_iff_getElem?.mpr ⟨j, by rw [rm_get, h1]; rfl⟩, ?_⟩
    rw [List.contains_iff_mem, List.tail_drop]
    exact List.mem_iff_getElem?.mpr ⟨i - (fr j + 1), by rw [List.getElem?_drop, show fr j + 1 + (i - (fr j + 1)) = i by omega]; exact h3⟩
  · rintro ⟨x, h1, h2⟩
    obtain ⟨j, hj⟩ := List.mem_iff_getElem?.mp h1
    rw [rm_get] at hj
    obtain ⟨l, hl, rfl⟩ := Option.map_eq_some_iff.mp hj
    rw [List.contains_iff_mem, List.tail_drop] at h2
    obtain ⟨i, hi⟩ := List.mem_iff_getElem?.mp h2
    rw [List.getElem?_drop] at hi
    exact ⟨j, l, fr j + 1 + i, Nat.zero_le _, hl, by omega, hi⟩
theorem can_iff (LL : List (List Nat)) (fr : Nat → Nat) (j y : Nat) : Can LL fr j y ↔ ((rmM LL fr)[j]?).bind (hdM (rmM LL fr)) = some y := by
  unfold Can
  rw [rm_get, bh_iff]
  cases hl : LL[j]? with
  | none =>
    constructor
    · rintro ⟨⟨l, h, -⟩, -⟩
      cases h
    · intro h
      cases h
  | some l =>
    show _ ↔ hdM (rmM LL fr) (l.drop (fr j)) = some y
    have e : (l.drop (fr j)).head? = l[fr j]? := List.head?_drop
    cases hd : l.drop (fr j) with
    | nil =>
      rw [hd] at e
      constructor
      · rintro ⟨⟨l', h, h2⟩, -⟩
        cases h
        rw [← e] at h2
        cases h2
      · intro h
        cases h
    | cons z r =>
      rw [hd] at e
      show _ ↔ (if (rmM LL fr).any (fun l => l.tail.contains z) = true then none else some z) = some y
      constructor
      · rintro ⟨⟨l', h, h2⟩, h3⟩
        cases h
        rw [← e] at h2
        cases h2
        rw [if_neg h3]
      · intro h
        split at h
        · cases h
        · rename_i h3
          cases h
          exact ⟨⟨l, rfl, e.symm⟩, h3⟩
theorem fs_some {α β : Type} {f : α → Option β} {l : List α} {j : Nat} {b : β} (h : (l[j]?).bind f = some b) (h0 : ∀ j' b', j' < j → (l[j']?).bind f ≠ some b') : l.findSome? f = some b := by
  obtain ⟨x, hx, hb⟩ := Option.bind_eq_some_iff.mp h
  have hj := (List.getElem?_eq_some_iff.mp hx).1
  refine List.findSome?_eq_some_iff.mpr ⟨l.take j, x, l.drop (j + 1), ?_, hb, fun y hy => ?_⟩
  · have e1 : l.drop j = x :: l.drop (j + 1) := by
      rw [List.drop_eq_getElem_cons hj]
      congr 1
      exact Option.some.inj ((List.getElem?_eq_getElem hj).symm.trans hx)
    rw [← e1, List.take_append_drop]
  · obtain ⟨i, hi⟩ := List.mem_iff_getElem?.mp hy
    have hi2 : i < j := by
      have := (List.getElem?_eq_some_iff.mp hi).1
      rw [List.length_take] at this
      omega
    rw [List.getElem?_take, if_pos hi2] at hi
    cases hf : f y with
    | none => rfl
    | some b' => exact absurd (by rw [hi]; exact hf) (h0 i b' hi2)
theorem fs_none {α β : Type} {f : α → Option β} {l : List α} (h0 : ∀ (j : Nat) b, (l[j]?).bind f ≠ some b) : l.findSome? f = none := by
  refine List.findSome?_eq_none_iff.mpr fun y hy => ?_
  obtain ⟨i, hi⟩ := List.mem_iff_getElem?.mp hy
  cases hf : f y with
  | none => rfl
  | some b' => exact absurd (by rw [hi]; exact hf) (h0 i b')
theorem rm_step (LL : List (List Nat)) (fr : Nat → Nat) (y : Nat) : rmM LL (frD LL fr y) = (rmM LL fr).map fun l => if l.head? = some y then l.tail else l := by
  refine List.ext_getElem? fun j => ?_
  rw [List.getElem?_map, rm_get, rm_get]
  cases hl : LL[j]? with
  | none => rfl
  | some l =>
    show some _ = some _
    congr 1
    rw [frD_at hl]
    show _ = if (l.drop (fr j)).head? = some y then (l.drop (fr j)).tail else l.drop (fr j)
    rw [List.head?_drop, List.tail_drop]
    split
    · rfl
    · rfl
theorem rm_done (LL : List (List Nat)) (fr : Nat → Nat) (hb : ∀ j l, LL[j]? = some l → fr j ≤ l.length) : (rmM LL fr).all (·.isEmpty) = true ↔ ∀ j l, LL[j]? = some l → fr j = l.length := by
  rw [List.all_eq_true]
  constructor
  · intro h j l hl
    have := h (l.drop (fr j)) (List.mem_iff_getElem?.mpr ⟨j, by rw [rm_get, hl]; rfl⟩)
    rw [List.isEmpty_iff] at this
    have e := congrArg List.length this
    rw [List.length_drop] at e
    have := hb j l hl
    have e0 : List.length ([] : List Nat) = 0 := rfl
    omega
  · intro h x hx
    obtain ⟨j, hj⟩ := List.mem_iff_getElem?.mp hx
    rw [rm_get] at hj
    obtain ⟨l, hl, rfl⟩ := Option.map_eq_some_iff.mp hj
    rw [List.isEmpty_iff, h j l hl]
    exact List.drop_length
theorem mgR_f (LL : List (List Nat)) : ∀ f fr r b, MgR LL f fr r b → (∀ j l, LL[j]? = some l → fr j ≤ l.length) → mgL f (rmM LL fr) = (r, b)
  | 0, fr, r, b, h, _ => h.elim
  | f + 1, fr, r, b, h, hb => by
    rcases h with ⟨j, y, h1, h2, r', h3, h4⟩ | ⟨h1, h2, h3⟩
    · have e : (rmM LL fr).findSome? (hdM (rmM LL fr)) = some y := fs_some ((can_iff _ _ _ _).mp h1) (fun j' b' hj z => h2 j' b' hj ((can_iff _ _ _ _).mpr z))
      have hb2 : ∀ j l, LL[j]? = some l → frD LL fr y j ≤ l.length := by
        intro j l hl
        rw [frD_at hl]
        split
        · rename_i z
          exact (List.getElem?_eq_some_iff.mp z).1
        · exact hb j l hl
      have g := mgR_f LL f _ _ _ h4 hb2
      rw [rm_step] at g
      rw [mgL, e]
      dsimp only
      rw [g, h3]
    · have e : (rmM LL fr).findSome? (hdM (rmM LL fr)) = none := fs_none (fun j y z => h1 j y ((can_iff _ _ _ _).mpr z))
      rw [mgL, e]
      dsimp only
      rw [h2]
      congr 1
      have := rm_done LL fr hb
      rw [← h3] at this
      cases b <;> cases hA : (rmM LL fr).all (·.isEmpty)
      · rfl
      · exact absurd (this.mp hA) (by decide)
      · exact (this.mpr rfl).symm.trans hA |>.symm
      · rfl
theorem rm_0 (LL : List (List Nat)) : rmM LL (fun _ => 0) = LL := by
  refine List.ext_getElem? fun j => ?_
  rw [rm_get]
  cases LL[j]? <;> rfl
/-- the rows of a new kind: by ways 0, 1, 2, each behind itself; whether the first could be made -/
def rwN (k : Nat) (ps : List Nat) (rs : Nat → Nat → List Nat) : List Nat × List Nat × List Nat × Bool := (k :: (mgL (k + 1) (ps.map (rs 0) ++ [ps])).1, k :: (ps.flatMap (rs 1)).foldl jn1 [], k :: (ps.flatMap (rs 2)).foldl jn2 [], (mgL (k + 1) (ps.map (rs 0) ++ [ps])).2)
theorem mkR_f {k : Nat} {ps : List Nat} {rs : Nat → Nat → List Nat} {σ υ : Sg} {L1 L2 L0 : List Nat} {b : Bool} (h : MkR k ps rs σ υ L1 L2 L0 b) : rwN k ps rs = (k :: L0, k :: L1, k :: L2, b) := by
  obtain ⟨-, -, -, -, -, -, -, -, -, -, -, h1, h2, h3, -⟩ := h
  have g := mgR_f _ _ _ _ _ h3 (fun _ _ _ => Nat.zero_le _)
  rw [rm_0] at g
  unfold rwN
  rw [g, ← jnF_1 h1, ← jnF_2 h2]

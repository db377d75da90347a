def sH : Ast → Nat
  | .tag op (.nest _ (.nest _ (.append a (.append b c)))) => max (sH a + if op = 3 ∨ op = 4 ∨ 39 ≤ op then 1 else if op = 5 then 4 else 0) (max (sH b + if op = 8 ∨ (13 ≤ op ∧ op ≤ 15) then 1 else 0) (max (sH c + if 13 ≤ op ∧ op ≤ 15 then 2 else 0) 1))
  | _ => 0
theorem sH_2 (op : Nat) (v w : Int) (a b c : Ast) : sH (aN op v w a b c) = max (sH a + if op = 3 ∨ op = 4 ∨ 39 ≤ op then 1 else if op = 5 then 4 else 0) (max (sH b + if op = 8 ∨ (13 ≤ op ∧ op ≤ 15) then 1 else 0) (max (sH c + if 13 ≤ op ∧ op ≤ 15 then 2 else 0) 1)) := rfl
theorem sH_nil : sH .nil = 0 := rfl
def HtK (n : Nat) (f : Pf) : Prop := ∀ vs p c p' c' es x, f vs p c = .inr (p', c', es, x) → sH x ≤ n
section HTK
variable {t : Nat → Int32} {n : Nat} {env : Env}
theorem hk_lk {k : Nat} {sub : Pf} (hs : HtK k sub) {s1 s2 : Nat} {vs : List (List Int32)} : ∀ f p c es l p' c' es' l', pLk t n sub s1 s2 vs f p c es l = .inr (p', c', es', l') → (∀ y ∈ l, sH y.2 ≤ k) → ∀ y ∈ l', sH y.2 ≤ k
  | 0, p, c, es, l, p', c', es', l', h, _ => by cases h
  | f + 1, p, c, es, l, p', c', es', l', h, hl => by
    rw [pLk] at h
    split at h
    · split at h
      · cases h
      · rename_i p1 c1 es1 y hy
        refine hk_lk hs f _ _ _ _ _ _ _ _ h (fun z hz => ?_)
        rcases List.mem_append.mp hz with q | q
        · exact hl z q
        · rw [List.mem_singleton] at q
          rw [q]
          exact hs _ _ _ _ _ _ _ hy
    · cases h
      exact hl
theorem hk_lkA {k : Nat} : ∀ l : List (Nat × Ast), (∀ y ∈ l, 9 ≤ y.1 ∧ sH y.2 ≤ k) → sH (lkA l) ≤ k + 1
  | [], _ => Nat.zero_le _
  | (s, y) :: r, h => by
    have h1 := h (s, y) (List.mem_cons_self ..)
    have h2 := hk_lkA r (fun z hz => h z (List.mem_cons_of_mem _ hz))
    show sH (aN (30 + s) 0 0 y (lkA r) .nil) ≤ k + 1
    dsimp only at h1
    rw [sH_2, sH_nil]
    (repeat' split) <;> omega
theorem hk_lk9 {sub : Pf} {s1 s2 : Nat} (h1 : 9 ≤ s1) (h2 : 9 ≤ s2) {vs : List (List Int32)} : ∀ f p c es l p' c' es' l', pLk t n sub s1 s2 vs f p c es l = .inr (p', c', es', l') → (∀ y ∈ l, 9 ≤ y.1) → ∀ y ∈ l', 9 ≤ y.1
  | 0, p, c, es, l, p', c', es', l', h, _ => by cases h
  | f + 1, p, c, es, l, p', c', es', l', h, hl => by
    rw [pLk] at h
    split at h
    · rename_i ho
      split at h
      · cases h
      · rename_i p1 c1 es1 y hy
        refine hk_lk9 h1 h2 f _ _ _ _ _ _ _ _ h (fun z hz => ?_)
        rcases List.mem_append.mp hz with q | q
        · exact hl z q
        · rw [List.mem_singleton] at q
          rw [q]
          show 9 ≤ tyS t n p
          omega
    · cases h
      exact hl
theorem hk_ch {k : Nat} {sub : Pf} (hs : HtK k sub) {s1 s2 : Nat} (h1 : 9 ≤ s1) (h2 : 9 ≤ s2) : HtK (k + 1) (pCh t n sub s1 s2) := by
  intro vs p c p' c' es x h
  unfold pCh at h
  obtain ⟨p1, c1, es1, z, hz, h⟩ := bnd_ok h
  split at h
  · cases h
  · rename_i p2 c2 es2 l hl
    have e : mkCh z l = x := by
      cases h
      rfl
    have hz := hs _ _ _ _ _ _ _ hz
    have hl1 := hk_lk hs _ _ _ _ _ _ _ _ _ hl (fun y hy => by cases hy)
    have hl2 := hk_lk9 h1 h2 _ _ _ _ _ _ _ _ _ hl (fun y hy => by cases hy)
    have hA := hk_lkA l (fun y hy => ⟨hl2 y hy, hl1 y hy⟩)
    rw [← e]
    unfold mkCh
    split
    · omega
    · rw [sH_2, sH_nil]
      (repeat' split) <;> omega
theorem hk_co {k : Nat} {sm : Pf} (hs : HtK k sm) : HtK (k + 1) (pCo t n env sm) := by
  intro vs p c p' c' es x h
  unfold pCo at h
  obtain ⟨p1, c1, es1, z, hz, h⟩ := bnd_ok h
  have hz := hs _ _ _ _ _ _ _ hz
  split at h
  · obtain ⟨p2, c2, es2, y, hy, h⟩ := bnd_ok h
    have hy := hs _ _ _ _ _ _ _ hy
    cases h
    rw [sH_2, sH_nil]
    (repeat' split) <;> omega
  · split at h
    · split at h
      · cases h
        rw [sH_2, sH_nil]
        (repeat' split) <;> omega
      · cases h
    · cases h
      omega
theorem hk_ar {k : Nat} {e : Pf} {most : Nat} (hs : HtK k e) {vs : List (List Int32)} : ∀ f p c es l p' c' es' l', pAr t n e most vs f p c es l = .inr (p', c', es', l') → (∀ y ∈ l, sH y ≤ k) → ∀ y ∈ l', sH y ≤ k
  | 0, p, c, es, l, p', c', es', l', h, _ => by cases h
  | f + 1, p, c, es, l, p', c', es', l', h, hl => by
    rw [pAr] at h
    split at h
    · cases h
    · rename_i p2 c2 es2 x hx
      have hx := hs _ _ _ _ _ _ _ hx
      have hl2 : ∀ y ∈ l ++ [x], sH y ≤ k := fun z hz => by
        rcases List.mem_append.mp hz with q | q
        · exact hl z q
        · rw [List.mem_singleton] at q
          rw [q]
          exact hx
      split at h
      · exact hk_ar hs f _ _ _ _ _ _ _ _ h hl2
      · split at h
        · cases h
          exact hl2
        · cases h
theorem hk_an {k : Nat} {e : Pf} {most : Nat} (hs : HtK k e) {vs : List (List Int32)} {p c p' c' : Nat} {es es' : Evs} {op : Nat} (ho : op = 13 ∨ op = 14 ∨ op = 15) {v : Int} {x : Ast} (h : pAN t n e most vs p c es op v = .inr (p', c', es', x)) : sH x ≤ k + 2 := by
  unfold pAN at h
  split at h
  · cases h
  · rename_i p1 c1 es1 l hl
    have hl := hk_ar hs _ _ _ _ _ _ _ _ _ hl (fun y hy => by cases hy)
    have g : ∀ i, sH (l.getD i .nil) ≤ k := fun i => by
      rw [List.getD_eq_getElem?_getD]
      cases q : l[i]? with
      | none => exact Nat.zero_le _
      | some y => exact hl y (List.mem_of_getElem? q)
    have e : x = aN op v l.length (l.getD 0 .nil) (l.getD 1 .nil) (l.getD 2 .nil) := by
      cases h
      rfl
    have g0 := g 0
    have g1 := g 1
    have g2 := g 2
    rw [e, sH_2]
    (repeat' split) <;> omega
theorem hk_pb {k : Nat} {e pp : Pf} (he : HtK k e) (hp : HtK k pp) : HtK (k + 2) (pPb t n env e pp) := by
  intro vs p c p' c' es x h
  unfold pPb at h
  split at h
  · split at h
    · cases h
    · cases h
      rw [sH_2, sH_nil]
      (repeat' split) <;> omega
  · split at h
    · split at h
      · refine hk_an he ?_ h
        split <;> omega
      · cases h
        rw [sH_2, sH_nil]
        (repeat' split) <;> omega
    · split at h
      · split at h
        · exact hk_an he (Or.inr (Or.inr rfl)) h
        · cases h
          rw [sH_2, sH_nil]
          (repeat' split) <;> omega
      · split at h
        · obtain ⟨p1, c1, es1, z, hz, h⟩ := bnd_ok h
          have hz := hp _ _ _ _ _ _ _ hz
          cases h
          rw [sH_2, sH_nil]
          (repeat' split) <;> omega
        · split at h
          · obtain ⟨p1, c1, es1, z, hz, h⟩ := bnd_ok h
            have hz := he _ _ _ _ _ _ _ hz
            split at h
            · cases h
              omega
            · cases h
          · cases h
theorem hk_eb {k : Nat} {e pp : Pf} (he : HtK (k + 1) e) (hp : HtK k pp) : HtK (k + 5) (pEb t n env e pp) := by
  intro vs p c p' c' es x h
  unfold pEb at h
  split at h
  · split at h
    · split at h
      · obtain ⟨p1, c1, es1, z, hz, h⟩ := bnd_ok h
        have hz := he _ _ _ _ _ _ _ hz
        split at h
        · obtain ⟨p2, c2, es2, y, hy, h⟩ := bnd_ok h
          have hy := he _ _ _ _ _ _ _ hy
          cases h
          rw [sH_2, sH_nil]
          (repeat' split) <;> omega
        · cases h
      · cases h
    · cases h
  · split at h
    · obtain ⟨p1, c1, es1, z, hz, h⟩ := bnd_ok h
      have hz := he _ _ _ _ _ _ _ hz
      split at h
      · obtain ⟨p2, c2, es2, y, hy, h⟩ := bnd_ok h
        have hy := he _ _ _ _ _ _ _ hy
        split at h
        · obtain ⟨p3, c3, es3, u, hu, h⟩ := bnd_ok h
          have hu := he _ _ _ _ _ _ _ hu
          cases h
          rw [sH_2]
          (repeat' split) <;> omega
        · cases h
      · cases h
    · split at h
      · split at h
        · split at h
          · obtain ⟨p1, c1, es1, z, hz, h⟩ := bnd_ok h
            have hz := he _ _ _ _ _ _ _ hz
            cases h
            rw [sH_2, sH_nil]
            (repeat' split) <;> omega
          · cases h
        · cases h
      · split at h
        · obtain ⟨p1, c1, es1, z, hz, h⟩ := bnd_ok h
          have hz := he _ _ _ _ _ _ _ hz
          split at h
          · split at h
            · split at h
              · obtain ⟨p2, c2, es2, y, hy, h⟩ := bnd_ok h
                have hy := he _ _ _ _ _ _ _ hy
                cases h
                rw [sH_2, sH_nil]
                (repeat' split) <;> omega
              · cases h
            · cases h
          · cases h
        · split at h
          · obtain ⟨p1, c1, es1, z, hz, h⟩ := bnd_ok h
            have hz := he _ _ _ _ _ _ _ hz
            cases h
            rw [sH_2, sH_nil]
            (repeat' split) <;> omega
          · exact Nat.le_trans (hk_co (hk_ch (hk_ch hp (by omega) (by omega)) (by omega) (by omega)) _ _ _ _ _ _ _ h) (by omega)
theorem hk_x : ∀ r, HtK (4 * r + 1) (pX t n env r false) ∧ HtK (4 * r) (pX t n env r true)
  | 0 => ⟨fun vs p c p' c' es x h => (by cases h), fun vs p c p' c' es x h => (by cases h)⟩
  | r + 1 => by
    obtain ⟨h1, h2⟩ := hk_x r
    refine ⟨?_, ?_⟩
    · have := hk_eb (env := env) (t := t) (n := n) (k := 4 * r) h1 h2
      exact this
    · have := hk_pb (env := env) (t := t) (n := n) (k := 4 * r + 1) h1 (fun vs p c p' c' es x h => Nat.le_trans (h2 vs p c p' c' es x h) (by omega))
      exact fun vs p c p' c' es x h => Nat.le_trans (this vs p c p' c' es x h) (by omega)
/-- bodies of methods that were read -/
theorem mt_k {mn p p' : Nat} {es : Evs} {D : Mtd} (h : pMt t n env mn p = .inr (p', es, D)) : sH D.2.2.2.2.2.1 ≤ 49 := by
  unfold pMt at h
  split at h
  · split at h
    · split at h
      · cases h
      · split at h
        · cases h
        · split at h
          · cases h
          · split at h
            · split at h
              · cases h
              · rename_i p8 c8 es8 y hy
                split at h
                · cases h
                  exact (hk_x 12).1 _ _ _ _ _ _ _ hy
                · cases h
            · cases h
    · cases h
  · cases h
theorem de_k {p p' : Nat} {es : Evs} {W W' : Wld} (h : pDe t n W p = .inr (p', es, W')) (hW : ∀ x ∈ W.2.2.2, sH x.1.2.2.2.2.2.1 ≤ 49) : ∀ x ∈ W'.2.2.2, sH x.1.2.2.2.2.2.1 ≤ 49 := by
  unfold pDe at h
  split at h
  · split at h
    · cases h
    · cases h
      exact hW
  · split at h
    · split at h
      · cases h
      · cases h
        exact hW
    · split at h
      · split at h
        · cases h
        · cases h
          exact hW
      · split at h
        · split at h
          · cases h
          · rename_i p2 es2 D hm
            have hD := mt_k hm
            have e0 := (Prod.mk.inj (Prod.mk.inj (Sum.inr.inj h)).2).2
            rw [← e0]
            intro x hx
            have hx : x ∈ (if W.2.2.2.length < 120 then W.2.2.2 ++ [(D, false)] else W.2.2.2) := hx
            split at hx
            · rcases List.mem_append.mp hx with z | z
              · exact hW x z
              · rw [List.mem_singleton] at z
                rw [z]
                exact hD
            · exact hW x hx
        · cases h
theorem tx_k : ∀ f (W W' : Wld) p p' es, pTx t n f W p = .inr (p', es, W') → (∀ x ∈ W.2.2.2, sH x.1.2.2.2.2.2.1 ≤ 49) → ∀ x ∈ W'.2.2.2, sH x.1.2.2.2.2.2.1 ≤ 49
  | 0, W, W', p, p', es, h, _ => by cases h
  | f + 1, W, W', p, p', es, h, hW => by
    rw [pTx] at h
    split at h
    · cases h
    · rename_i p2 es1 W2 hde
      split at h
      · cases h
        exact de_k hde hW
      · split at h
        · cases h
        · rename_i p3 es2 W3 htx
          have e2 := (Prod.mk.inj (Prod.mk.inj (Sum.inr.inj h)).2).2
          rw [← e2]
          exact tx_k f _ _ _ _ _ htx (de_k hde hW)
end HTK

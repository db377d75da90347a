/-! WELL-FORMED WORLDS -/
theorem ex_ind {E : Wev} {P : Ast → Bool → Nat → Prop}
    (h1 : ∀ (op : Nat) v w a b (nv : Nat), (op = 1 ∨ op = 5) → v = (nv : Int) → nv ≤ 14 → exW E a false nv → exW E b false (nv + 1) → P a false nv → P b false (nv + 1) → P (aN op v w a b .nil) false nv)
    (h2 : ∀ v w a b c (nv : Nat), exW E a false nv → exW E b false nv → exW E c false nv → P a false nv → P b false nv → P c false nv → P (aN 2 v w a b c) false nv)
    (h3 : ∀ (op : Nat) v w a (nv : Nat), (op = 3 ∨ op = 4) → (0 ≤ v ∧ v < (E.2.2.1 : Int)) → exW E a false nv → P a false nv → P (aN op v w a .nil .nil) false nv)
    (h6 : ∀ (op : Nat) v w a (nv : Nat), (op = 6 ∨ op = 7 ∨ op = 16) → exW E a false nv → P a false nv → P (aN op v w a .nil .nil) false nv)
    (h8 : ∀ v w a b (nv : Nat), (v = 15 ∨ v = 16 ∨ v = 17) → exW E a false nv → exW E b false nv → P a false nv → P b false nv → P (aN 8 v w a b .nil) false nv)
    (h9 : ∀ v w a (nv : Nat), (0 ≤ v ∧ v < (E.1 : Int)) → exW E a false nv → P a false nv → P (aN 9 v w a .nil .nil) false nv)
    (h10 : ∀ v w a b (nv : Nat), w = (lkN b : Int) → exW E a false nv → exW E b true nv → P a false nv → P b true nv → P (aN 10 v w a b .nil) false nv)
    (h11 : ∀ v w (nv : Nat), (-2147483647 ≤ v ∧ v ≤ 2147483647) → P (aN 11 v w .nil .nil .nil) false nv)
    (h12 : ∀ v w (nv : Nat), (0 ≤ v ∧ v < (nv : Int)) → P (aN 12 v w .nil .nil .nil) false nv)
    (h13 : ∀ v a (nv : Nat), (0 ≤ v ∧ v < (E.1 : Int)) → E.2.2.2.1 v.toNat = false → exW E a false nv → P a false nv → P (aN 13 v 1 a .nil .nil) false nv)
    (h14 : ∀ v w a b c (nv : Nat), (0 ≤ v ∧ v < (E.2.1 : Int)) → w = (E.2.2.2.2.1 v.toNat : Int) → exW E a false nv → P a false nv → (2 ≤ w → exW E b false nv ∧ P b false nv) → (¬ 2 ≤ w → b = .nil) → (3 ≤ w → exW E c false nv ∧ P c false nv) → (¬ 3 ≤ w → c = .nil) → P (aN 14 v w a b c) false nv)
    (h15 : ∀ v (nv : Nat), 0 ≤ E.2.2.2.2.2 → P (aN 15 v 0 .nil .nil .nil) false nv)
    (h16 : ∀ v w a b c (nv : Nat), 0 ≤ E.2.2.2.2.2 → w = (E.2.2.2.2.1 E.2.2.2.2.2.toNat : Int) → exW E a false nv → P a false nv → (2 ≤ w → exW E b false nv ∧ P b false nv) → (¬ 2 ≤ w → b = .nil) → (3 ≤ w → exW E c false nv ∧ P c false nv) → (¬ 3 ≤ w → c = .nil) → P (aN 15 v w a b c) false nv)
    (hl : ∀ (op : Nat) v w a b (nv : Nat), (39 ≤ op ∧ op ≤ 42) → exW E a false nv → (b = .nil ∨ (exW E b true nv ∧ P b true nv)) → P a false nv → P (aN op v w a b .nil) true nv) : ∀ x lk nv, exW E x lk nv → P x lk nv
  | .tag op (.nest v (.nest w (.append a (.append b c)))), lk, nv, h => by
    have ia := fun lk nv => ex_ind h1 h2 h3 h6 h8 h9 h10 h11 h12 h13 h14 h15 h16 hl a lk nv
    have ib := fun lk nv => ex_ind h1 h2 h3 h6 h8 h9 h10 h11 h12 h13 h14 h15 h16 hl b lk nv
    have ic := fun lk nv => ex_ind h1 h2 h3 h6 h8 h9 h10 h11 h12 h13 h14 h15 h16 hl c lk nv
    rcases h with ⟨rfl, g1, g2, g3, rfl⟩ | ⟨rfl, h⟩
    · refine hl op v w a b nv g1 g2 ?_ (ia _ _ g2)
      rcases g3 with g3 | g3
      · exact Or.inl g3
      · exact Or.inr ⟨g3, ib _ _ g3⟩
    · rcases h with ⟨rfl, g1, ga, gb, rfl⟩ | ⟨rfl, ga, gb, gc⟩ | ⟨g0, g1, ga, rfl, rfl⟩ | ⟨rfl, g1, ga, gb, rfl⟩ | ⟨g0, ga, rfl, rfl⟩ | ⟨rfl, g1, ga, gb, rfl⟩ | ⟨rfl, g1, ga, rfl, rfl⟩ | ⟨rfl, g1, ga, gb, rfl⟩ | ⟨rfl, g1, rfl, rfl, rfl⟩ | ⟨rfl, g1, rfl, rfl, rfl⟩ | ⟨rfl, g1, rfl, ga, rfl, rfl⟩ | ⟨rfl, g1, ga, gb, gc⟩ | ⟨rfl, g1, rfl, rfl, rfl, rfl⟩ | ⟨rfl, g0, g1, ga, gb, gc⟩
      · exact h1 1 v w a b nv (Or.inl rfl) g1.1 g1.2 ga gb (ia _ _ ga) (ib _ _ gb)
      · exact h2 v w a b c nv ga gb gc (ia _ _ ga) (ib _ _ gb) (ic _ _ gc)
      · exact h3 op v w a nv g0 g1 ga (ia _ _ ga)
      · exact h1 5 v w a b nv (Or.inr rfl) g1.1 g1.2 ga gb (ia _ _ ga) (ib _ _ gb)
      · exact h6 op v w a nv g0 ga (ia _ _ ga)
      · exact h8 v w a b nv g1 ga gb (ia _ _ ga) (ib _ _ gb)
      · exact h9 v w a nv g1 ga (ia _ _ ga)
      · exact h10 v w a b nv g1 ga gb (ia _ _ ga) (ib _ _ gb)
      · exact h11 v w nv g1
      · exact h12 v w nv g1
      · exact h13 v a nv g1.1 g1.2 ga (ia _ _ ga)
      · refine h14 v w a b c nv g1.1 g1.2 ga (ia _ _ ga) (fun z => ?_) (fun z => ?_) (fun z => ?_) (fun z => ?_)
        · rw [if_pos z] at gb
          exact ⟨gb, ib _ _ gb⟩
        · rw [if_neg z] at gb
          exact gb
        · rw [if_pos z] at gc
          exact ⟨gc, ic _ _ gc⟩
        · rw [if_neg z] at gc
          exact gc
      · exact h15 v nv g1
      · refine h16 v w a b c nv g0 g1 ga (ia _ _ ga) (fun z => ?_) (fun z => ?_) (fun z => ?_) (fun z => ?_)
        · rw [if_pos z] at gb
          exact ⟨gb, ib _ _ gb⟩
        · rw [if_neg z] at gb
          exact gb
        · rw [if_pos z] at gc
          exact ⟨gc, ic _ _ gc⟩
        · rw [if_neg z] at gc
          exact gc
  | .nil, lk, nv, h => h.elim
  | .align _, lk, nv, h => h.elim
  | .append _ _, lk, nv, h => h.elim
  | .group _ _, lk, nv, h => h.elim
  | .line, lk, nv, h => h.elim
  | .nest _ _, lk, nv, h => h.elim
  | .tag _ (.align _), lk, nv, h => h.elim
  | .tag _ (.append _ _), lk, nv, h => h.elim
  | .tag _ (.group _ _), lk, nv, h => h.elim
  | .tag _ (.nest _ (.align _)), lk, nv, h => h.elim
  | .tag _ (.nest _ (.append _ _)), lk, nv, h => h.elim
  | .tag _ (.nest _ (.group _ _)), lk, nv, h => h.elim
  | .tag _ (.nest _ (.nest _ (.align _))), lk, nv, h => h.elim
  | .tag _ (.nest _ (.nest _ (.append _ (.align _)))), lk, nv, h => h.elim
  | .tag _ (.nest _ (.nest _ (.append _ (.group _ _)))), lk, nv, h => h.elim
  | .tag _ (.nest _ (.nest _ (.append _ (.nest _ _)))), lk, nv, h => h.elim
  | .tag _ (.nest _ (.nest _ (.append _ (.tag _ _)))), lk, nv, h => h.elim
  | .tag _ (.nest _ (.nest _ (.append _ (.text _)))), lk, nv, h => h.elim
  | .tag _ (.nest _ (.nest _ (.append _ .line))), lk, nv, h => h.elim
  | .tag _ (.nest _ (.nest _ (.append _ .nil))), lk, nv, h => h.elim
  | .tag _ (.nest _ (.nest _ (.group _ _))), lk, nv, h => h.elim
  | .tag _ (.nest _ (.nest _ (.nest _ _))), lk, nv, h => h.elim
  | .tag _ (.nest _ (.nest _ (.tag _ _))), lk, nv, h => h.elim
  | .tag _ (.nest _ (.nest _ (.text _))), lk, nv, h => h.elim
  | .tag _ (.nest _ (.nest _ .line)), lk, nv, h => h.elim
  | .tag _ (.nest _ (.nest _ .nil)), lk, nv, h => h.elim
  | .tag _ (.nest _ (.tag _ _)), lk, nv, h => h.elim
  | .tag _ (.nest _ (.text _)), lk, nv, h => h.elim
  | .tag _ (.nest _ .line), lk, nv, h => h.elim
  | .tag _ (.nest _ .nil), lk, nv, h => h.elim
  | .tag _ (.tag _ _), lk, nv, h => h.elim
  | .tag _ (.text _), lk, nv, h => h.elim
  | .tag _ .line, lk, nv, h => h.elim
  | .tag _ .nil, lk, nv, h => h.elim
  | .text _, lk, nv, h => h.elim
/-- more is told -/
def WvL (E E' : Wev) : Prop := E.1 ≤ E'.1 ∧ E.2.1 ≤ E'.2.1 ∧ E.2.2.1 ≤ E'.2.2.1 ∧ (∀ k, k < E.1 → E'.2.2.2.1 k = E.2.2.2.1 k) ∧ (∀ k, k < E.2.1 → E'.2.2.2.2.1 k = E.2.2.2.2.1 k) ∧ E'.2.2.2.2.2 = E.2.2.2.2.2 ∧ (0 ≤ E.2.2.2.2.2 → E.2.2.2.2.2.toNat < E.2.1)
theorem exW_mono {E E' : Wev} (hE : WvL E E') : ∀ x lk nv, exW E x lk nv → exW E' x lk nv := by
  obtain ⟨l1, l2, l3, l4, l5, l6, l7⟩ := hE
  refine ex_ind (P := exW E') ?_ ?_ ?_ ?_ ?_ ?_ ?_ ?_ ?_ ?_ ?_ ?_ ?_ ?_
  · intro op v w a b nv ho hv h14 _ _ pa pb
    rw [exW_2]
    rcases ho with rfl | rfl
    · exact Or.inr ⟨rfl, Or.inl ⟨rfl, ⟨hv, h14⟩, pa, pb, rfl⟩⟩
    · exact Or.inr ⟨rfl, Or.inr (Or.inr (Or.inr (Or.inl ⟨rfl, ⟨hv, h14⟩, pa, pb, rfl⟩)))⟩
  · intro v w a b c nv _ _ _ pa pb pc
    exact Or.inr ⟨rfl, Or.inr (Or.inl ⟨rfl, pa, pb, pc⟩)⟩
  · intro op v w a nv ho hv _ pa
    exact Or.inr ⟨rfl, Or.inr (Or.inr (Or.inl ⟨ho, by omega, pa, rfl, rfl⟩))⟩
  · intro op v w a nv ho _ pa
    exact Or.inr ⟨rfl, Or.inr (Or.inr (Or.inr (Or.inr (Or.inl ⟨ho, pa, rfl, rfl⟩))))⟩
  · intro v w a b nv hv _ _ pa pb
    exact Or.inr ⟨rfl, Or.inr (Or.inr (Or.inr (Or.inr (Or.inr (Or.inl ⟨rfl, hv, pa, pb, rfl⟩)))))⟩
  · intro v w a nv hv _ pa
    exact Or.inr ⟨rfl, Or.inr (Or.inr (Or.inr (Or.inr (Or.inr (Or.inr (Or.inl ⟨rfl, by omega, pa, rfl, rfl⟩))))))⟩
  · intro v w a b nv hv _ _ pa pb
    exact Or.inr ⟨rfl, Or.inr (Or.inr (Or.inr (Or.inr (Or.inr (Or.inr (Or.inr (Or.inl ⟨rfl, hv, pa, pb, rfl⟩)))))))⟩
  · intro v w nv hv
    exact Or.inr ⟨rfl, Or.inr (Or.inr (Or.inr (Or.inr (Or.inr (Or.inr (Or.inr (Or.inr (Or.inl ⟨rfl, hv, rfl, rfl, rfl⟩))))))))⟩
  · intro v w nv hv
    exact Or.inr ⟨rfl, Or.inr (Or.inr (Or.inr (Or.inr (Or.inr (Or.inr (Or.inr (Or.inr (Or.inr (Or.inl ⟨rfl, hv, rfl, rfl, rfl⟩)))))))))⟩
  · intro v a nv hv hb _ pa
    refine Or.inr ⟨rfl, Or.inr (Or.inr (Or.inr (Or.inr (Or.inr (Or.inr (Or.inr (Or.inr (Or.inr (Or.inr (Or.inl ⟨rfl, ⟨by omega, ?_⟩, rfl, pa, rfl, rfl⟩))))))))))⟩
    rw [l4 _ (by omega)]
    exact hb
  · intro v w a b c nv hv hw _ pa hb hb' hc hc'
    refine Or.inr ⟨rfl, Or.inr (Or.inr (Or.inr (Or.inr (Or.inr (Or.inr (Or.inr (Or.inr (Or.inr (Or.inr (Or.inr (Or.inl ⟨rfl, ⟨by omega, ?_⟩, pa, ?_, ?_⟩)))))))))))⟩
    · rw [l5 _ (by omega)]
      exact hw
    · split
      · rename_i z
        exact (hb z).2
      · rename_i z
        exact hb' z
    · split
      · rename_i z
        exact (hc z).2
      · rename_i z
        exact hc' z
  · intro v nv hv
    exact Or.inr ⟨rfl, Or.inr (Or.inr (Or.inr (Or.inr (Or.inr (Or.inr (Or.inr (Or.inr (Or.inr (Or.inr (Or.inr (Or.inr (Or.inl ⟨rfl, by rw [l6]; exact hv, rfl, rfl, rfl, rfl⟩))))))))))))⟩
  · intro v w a b c nv hv hw _ pa hb hb' hc hc'
    refine Or.inr ⟨rfl, Or.inr (Or.inr (Or.inr (Or.inr (Or.inr (Or.inr (Or.inr (Or.inr (Or.inr (Or.inr (Or.inr (Or.inr (Or.inr ⟨rfl, by rw [l6]; exact hv, ?_, pa, ?_, ?_⟩))))))))))))⟩
    · rw [l6, l5 _ (l7 hv)]
      exact hw
    · split
      · rename_i z
        exact (hb z).2
      · rename_i z
        exact hb' z
    · split
      · rename_i z
        exact (hc z).2
      · rename_i z
        exact hc' z
  · intro op v w a b nv ho _ hb pa
    refine exW_l _ _ _ _ _ _ _ _ ho pa ?_ rfl
    rcases hb with hb | hb
    · exact Or.inl hb
    · exact Or.inr hb.2
theorem tsW_mono {kn kn' pl : Nat} (h : kn ≤ kn') : ∀ x, tsW kn pl x → tsW kn' pl x := by
  refine ts_ind (P := tsW kn' pl) ?_ ?_ ?_ ?_
  · intro v w pb mo h1 h2 h3 h4
    exact Or.inl ⟨rfl, rfl, h1, h2, pb, mo, rfl, h3, h4⟩
  · intro v w h1 h2
    exact Or.inr (Or.inl ⟨rfl, rfl, rfl, by omega, h2⟩)
  · intro op v w a b ho _ _ pa pb
    exact Or.inr (Or.inr (Or.inl ⟨ho, pa, pb⟩))
  · intro v w a _ pa
    exact Or.inr (Or.inr (Or.inr ⟨rfl, pa, rfl⟩))
def evW (W : Wld) (own : Int) : Wev := (W.1.length, W.2.1.length, W.2.2.1.length, (fun k => ((W.1[k]?).map (·.2.1)).getD false), plW W.2.1, own)
def WfC (cs : List Cal) : Prop := ∀ x ∈ cs, 1 ≤ x.2.1 ∧ x.2.1 ≤ 3
/-- a method as it should be -/
def WfM (W : Wld) (x : Mtd) : Prop := ∃ k : Nat, x.1 = k ∧ k < W.2.1.length ∧ x.2.1 ≤ 3 ∧ (-1 ≤ x.2.2.1 ∧ x.2.2.1 < W.2.2.1.length) ∧ x.2.2.2.1.length = plW W.2.1 k ∧ (∀ s ∈ x.2.2.2.1, (0 ≤ s.1 ∧ s.1 < W.1.length) ∧ (-2147483647 ≤ s.2.2 ∧ s.2.2 ≤ 2147483647)) ∧ (x.2.2.2.2.1 = .nil ∨ tsW W.1.length (plW W.2.1 k) x.2.2.2.2.1) ∧ (lfN x.2.2.2.2.1 ≤ 6 ∧ x.2.2.2.2.2.2 = lfN x.2.2.2.2.1 + hsN (plW W.2.1 k) x.2.2.2.1 ∧ (x.2.2.2.2.1 ≠ .nil → 1 ≤ lfN x.2.2.2.2.1) ∧ tH x.2.2.2.2.1 ≤ 18) ∧ exW (evW W k) x.2.2.2.2.2.1 false (plW W.2.1 k)
/-- a world as it should be -/
def WfW (W : Wld) : Prop := 1 ≤ W.1.length ∧ WfC W.2.1 ∧ ∀ x ∈ W.2.2.2, WfM W x.1
section WFM
variable {t : Nat → Int32} {n : Nat} {env : Env}
theorem plW_ok {cs : List Cal} (h : WfC cs) {k : Nat} (hk : k < cs.length) : 1 ≤ plW cs k ∧ plW cs k ≤ 3 := by
  have e : cs[k]? = some cs[k] := List.getElem?_eq_getElem hk
  have := h _ (List.getElem_mem hk)
  unfold plW
  rw [e]
  exact this
theorem ev_w {W : Wld} (hC : WfC W.2.1) {w : Int} (hw : w = -1 ∨ (0 ≤ w ∧ w.toNat < W.2.1.length)) : EvW (enW W.1 W.2.1 W.2.2.1 w) (evW W w) := by
  refine ⟨fun nm k h => ?_, fun nm k h => ?_, fun nm k h => fi_lt h, rfl, rfl, rfl, fun k hk => plW_ok hC hk, hw⟩
  · have := fi_lt h
    rw [List.length_map] at this
    exact this
  · have := fi_lt h
    rw [List.length_map] at this
    exact this
theorem sp_wf {pl kn : Nat} (hE : ∀ nm k, env.1 nm = some k → k < kn) (h1 : 1 ≤ kn) (hpl : 1 ≤ pl ∧ pl ≤ 3) : ∀ f p k vs es acc p' V acc', pSp t n env pl f p k vs es acc = .inr (p', V, [], acc') → es = [] ∧ (acc.length = k → vs.length = k → k < pl → (∀ s ∈ acc, (0 ≤ s.1 ∧ s.1 < (kn : Int)) ∧ (-2147483647 ≤ s.2.2 ∧ s.2.2 ≤ 2147483647)) → acc'.length = pl ∧ V.length = pl ∧ ∀ s ∈ acc', (0 ≤ s.1 ∧ s.1 < (kn : Int)) ∧ (-2147483647 ≤ s.2.2 ∧ s.2.2 ≤ 2147483647))
  | 0, p, k, vs, es, acc, p', V, acc', h => by cases h
  | f + 1, p, k, vs, es, acc, p', V, acc', h => by
    rw [pSp] at h
    split at h
    · split at h
      · cases h
      · rename_i p1 es1 kd hk
        have hkd : es1 = [] → 0 ≤ kd ∧ kd < kn := by
          intro hes
          unfold pSk at hk
          split at hk
          · split at hk
            · cases hk
              cases hx : env.1 (nmS t n (nxS t n (nxS t n p))) with
              | none =>
                rw [hx] at hes
                exact absurd hes (by simp)
              | some k' =>
                have := hE _ _ hx
                show (0 : Int) ≤ (k' : Int) ∧ (k' : Int) < kn
                omega
            · cases hk
          · cases hk
            omega
        split at h
        · cases h
        · rename_i p2 hs v hq
          have hv : -2147483647 ≤ v ∧ v ≤ 2147483647 := by
            unfold pSq at hq
            split at hq
            · split at hq
              · cases hq
              · rename_i v' p'' hb
                cases hq
                exact sg_ok hb
            · cases hq
              omega
          have hacc : k < 3 → es1 = [] → (∀ s ∈ acc, (0 ≤ s.1 ∧ s.1 < (kn : Int)) ∧ (-2147483647 ≤ s.2.2 ∧ s.2.2 ≤ 2147483647)) → ∀ s ∈ acc ++ [(kd, hs, v)], (0 ≤ s.1 ∧ s.1 < (kn : Int)) ∧ (-2147483647 ≤ s.2.2 ∧ s.2.2 ≤ 2147483647) := by
            intro _ hes ha s hm
            rcases List.mem_append.mp hm with z | z
            · exact ha s z
            · rw [List.mem_singleton] at z
              rw [z]
              exact ⟨hkd hes, hv⟩
          split at h
          · obtain ⟨g1, g2⟩ := sp_wf hE h1 hpl f _ _ _ _ _ _ _ _ h
            obtain ⟨g3, g4⟩ := ap_nil g1
            obtain ⟨g5, g6⟩ := ap_nil g3
            obtain ⟨g7, g8⟩ := ap_nil g5
            refine ⟨g7, fun a1 a2 a3 a4 => ?_⟩
            rw [if_pos (by omega : vs.length < 3), if_pos (by omega : k < 3)] at g2
            by_cases hlt : k + 1 < pl
            · exact g2 (by rw [List.length_append, a1]; rfl) (by rw [List.length_append, a2]; rfl) hlt (hacc (by omega) g4 a4)
            · -- one too many: the next has an event
              exfalso
              cases f with
              | zero =>
                cases h
              | succ f =>
                rw [pSp] at h
                split at h
                · split at h
                  · cases h
                  · split at h
                    · cases h
                    · split at h
                      · obtain ⟨b1, -⟩ := sp_wf hE h1 hpl f _ _ _ _ _ _ _ _ h
                        have := (ap_nil (ap_nil (ap_nil b1).1).1).2
                        rw [if_pos ⟨by omega, by omega⟩] at this
                        exact absurd this (by simp)
                      · split at h
                        · have e0 := (Prod.mk.inj (Sum.inr.inj h)).2
                          have e1 := (Prod.mk.inj (Prod.mk.inj e0).2).1
                          have := (ap_nil (ap_nil (ap_nil (ap_nil e1).1).1).1).2
                          rw [if_pos ⟨by omega, by omega⟩] at this
                          exact absurd this (by simp)
                        · cases h
                · cases h
          · split at h
            · have e0 := (Prod.mk.inj (Sum.inr.inj h)).2
              have eV := (Prod.mk.inj e0).1
              have e1 := (Prod.mk.inj (Prod.mk.inj e0).2).1
              have eA := (Prod.mk.inj (Prod.mk.inj e0).2).2
              obtain ⟨g0, g9⟩ := ap_nil e1
              obtain ⟨g3, g4⟩ := ap_nil g0
              obtain ⟨g5, g6⟩ := ap_nil g3
              obtain ⟨g7, g8⟩ := ap_nil g5
              refine ⟨g7, fun a1 a2 a3 a4 => ?_⟩
              rw [if_pos (by omega : vs.length < 3)] at eV
              rw [if_pos (by omega : k < 3)] at eA
              have hkp : k + 1 = pl := by
                by_cases q : k + 1 < pl
                · rw [if_pos ⟨by omega, q⟩] at g9
                  exact absurd g9 (by simp)
                · omega
              refine ⟨?_, ?_, ?_⟩
              · rw [← eA, List.length_append, a1]
                exact hkp
              · rw [← eV, List.length_append, a2]
                exact hkp
              · rw [← eA]
                exact hacc (by omega) g4 a4
            · cases h
    · cases h
theorem in_ok {ln p p' : Nat} {ly : Int} (hE : ∀ nm k, env.2.2.1 nm = some k → k < ln) (h : pIn t n env p = .inr (p', [], ly)) : -1 ≤ ly ∧ ly < ln := by
  unfold pIn at h
  split at h
  · split at h
    · have e0 := (Prod.mk.inj (Sum.inr.inj h)).2
      have e1 := (Prod.mk.inj e0).1
      have e2 := (Prod.mk.inj e0).2
      rw [← e2]
      cases hx : env.2.2.1 (nmS t n (nxS t n p)) with
      | none =>
        rw [hx] at e1
        exact absurd e1 (by simp)
      | some k' =>
        have := hE _ _ hx
        show (-1 : Int) ≤ (k' : Int) ∧ (k' : Int) < ln
        omega
    · cases h
  · have e0 := (Prod.mk.inj (Sum.inr.inj h)).2
    rw [← (Prod.mk.inj e0).2]
    omega
theorem rlO_le (y : Nat) : rlO y ≤ 3 := by
  unfold rlO
  split
  · omega
  · split
    · omega
    · split <;> omega
theorem mt_wf {W : Wld} (hW : 1 ≤ W.1.length) (hC : WfC W.2.1) {mn p p' : Nat} {D : Mtd} (h : pMt t n (enW W.1 W.2.1 W.2.2.1 (-1)) mn p = .inr (p', [], D)) : WfM W D := by
  have hv := ev_w (W := W) hC (w := -1) (Or.inl rfl)
  unfold pMt at h
  split at h
  · split at h
    · split at h
      · cases h
      · rename_i p3 V es3 acc hs
        split at h
        · cases h
        · rename_i p5 es5 ly hly
          split at h
          · cases h
          · rename_i p6 k6 es6 x hx
            split at h
            · split at h
              · cases h
              · rename_i p8 c8 es8 y hy
                split at h
                · have e0 := (Prod.mk.inj (Sum.inr.inj h)).2
                  have e1 := (Prod.mk.inj e0).1
                  have e2 := (Prod.mk.inj e0).2
                  obtain ⟨g1, g8⟩ := ap_nil e1
                  obtain ⟨g2, g6⟩ := ap_nil g1
                  obtain ⟨g3, g5⟩ := ap_nil g2
                  rw [g3] at hs
                  rw [g5] at hly
                  rw [g6] at hx
                  rw [g8] at hy
                  cases hc : (enW W.1 W.2.1 W.2.2.1 (-1)).2.1 (nmS t n p) with
                  | none =>
                    exfalso
                    rw [hc] at hs
                    have key : ∀ f p k vs es acc p' V acc', pSp t n (enW W.1 W.2.1 W.2.2.1 (-1)) (plO (enW W.1 W.2.1 W.2.2.1 (-1)) none) f p k vs es acc = .inr (p', V, [], acc') → es = [] := by
                      intro f
                      induction f with
                      | zero => intro p k vs es acc p' V acc' h; cases h
                      | succ f ih =>
                        intro p k vs es acc p' V acc' h
                        rw [pSp] at h
                        split at h
                        · split at h
                          · cases h
                          · split at h
                            · cases h
                            · split at h
                              · exact (ap_nil (ap_nil (ap_nil (ih _ _ _ _ _ _ _ _ h)).1).1).1
                              · split at h
                                · have e0 := (Prod.mk.inj (Sum.inr.inj h)).2
                                  have e1 := (Prod.mk.inj (Prod.mk.inj e0).2).1
                                  exact (ap_nil (ap_nil (ap_nil (ap_nil e1).1).1).1).1
                                · cases h
                        · cases h
                    have := (ap_nil (key _ _ _ _ _ _ _ _ _ hs)).1
                    rw [if_pos rfl] at this
                    exact absurd this (by simp)
                  | some k =>
                    rw [hc] at hs hy e2
                    have hk : k < W.2.1.length := hv.2.1 _ _ hc
                    have hpl := plW_ok hC hk
                    have epl : plO (enW W.1 W.2.1 W.2.2.1 (-1)) (some k) = plW W.2.1 k := rfl
                    rw [epl] at hs e2
                    obtain ⟨-, b2⟩ := sp_wf hv.1 hW hpl _ _ _ _ _ _ _ _ _ hs
                    obtain ⟨b3, b4, b5⟩ := b2 rfl rfl (by omega) (fun s hs => by cases hs)
                    obtain ⟨c1, c2, c3, c4, c5, c6⟩ := if_ok hv.1 hx
                    rw [b4] at c1
                    have hv2 := ev_w (W := W) hC (w := (k : Int)) (Or.inr ⟨by omega, by omega⟩)
                    have hy2 := x_ok (t := t) (n := n) hv2 12 false (by omega) V _ _ _ _ _ (by omega) hy
                    rw [b4] at hy2
                    rw [← e2]
                    exact ⟨k, rfl, hk, rlO_le _, in_ok hv.2.2.1 hly, b3, b5, c1, ⟨by dsimp only; omega, by dsimp only; rw [c2], fun z => by have := c5 z; dsimp only; omega, c6⟩, hy2⟩
                · cases h
            · cases h
    · cases h
  · cases h
theorem WfM.mono {W W' : Wld} {x : Mtd} (h : WfM W x) (h1 : ∃ o, W'.1 = W.1 ++ o) (h2 : ∃ o, W'.2.1 = W.2.1 ++ o) (h3 : ∃ o, W'.2.2.1 = W.2.2.1 ++ o) : WfM W' x := by
  obtain ⟨o1, e1⟩ := h1
  obtain ⟨o2, e2⟩ := h2
  obtain ⟨o3, e3⟩ := h3
  have l1 : W'.1.length = W.1.length + o1.length := by rw [e1, List.length_append]
  have l2 : W'.2.1.length = W.2.1.length + o2.length := by rw [e2, List.length_append]
  have l3 : W'.2.2.1.length = W.2.2.1.length + o3.length := by rw [e3, List.length_append]
  have epl : ∀ k, k < W.2.1.length → plW W'.2.1 k = plW W.2.1 k := fun k hk => by
    unfold plW
    rw [e2, List.getElem?_append_left hk]
  have eba : ∀ k, k < W.1.length → ((W'.1[k]?).map (·.2.1)).getD false = ((W.1[k]?).map (·.2.1)).getD false := fun k hk => by
    rw [e1, List.getElem?_append_left hk]
  obtain ⟨k, a1, a2, a3, a4, a5, a6, a7, a8, a9⟩ := h
  refine ⟨k, a1, by omega, a3, by omega, by rw [epl k a2]; exact a5, fun s hs => ?_, ?_, by rw [epl k a2]; exact a8, ?_⟩
  · have := a6 s hs
    omega
  · rw [epl k a2]
    rcases a7 with z | z
    · exact Or.inl z
    · exact Or.inr (tsW_mono (by omega) _ z)
  · rw [epl k a2]
    refine exW_mono (E := evW W k) (E' := evW W' k) ⟨?_, ?_, ?_, eba, epl, rfl, fun _ => ?_⟩ _ _ _ a9
    · show W.1.length ≤ W'.1.length
      omega
    · show W.2.1.length ≤ W'.2.1.length
      omega
    · show W.2.2.1.length ≤ W'.2.2.1.length
      omega
    · show ((k : Int)).toNat < W.2.1.length
      omega
theorem adO_ap {α : Type} (l : List α) (o : Option α) : ∃ r, adO l o = l ++ r := by
  cases o with
  | none => exact ⟨[], (List.append_nil _).symm⟩
  | some x => exact ⟨[x], rfl⟩
theorem cl_ok {cn p p' : Nat} {es : Evs} {o : Option Cal} (h : pCl t n env cn p = .inr (p', es, o)) : ∀ x ∈ o, 1 ≤ x.2.1 ∧ x.2.1 ≤ 3 := by
  intro x hx
  unfold pCl at h
  split at h
  · split at h
    · split at h
      · split at h
        · split at h
          · cases h
          · split at h
            · cases h
            · split at h
              · have e2 := (Prod.mk.inj (Prod.mk.inj (Sum.inr.inj h)).2).2
                rw [← e2] at hx
                split at hx
                · cases hx
                · cases hx
                  dsimp only
                  split <;> omega
              · cases h
        · cases h
      · cases h
    · cases h
  · cases h
theorem de_wf {p p' : Nat} {W W' : Wld} (h : pDe t n W p = .inr (p', [], W')) (hW : WfW W) : WfW W' := by
  obtain ⟨h1, hC, hM⟩ := hW
  unfold pDe at h
  split at h
  · split at h
    · cases h
    · rename_i p2 es o hk
      cases h
      obtain ⟨r, e⟩ := adO_ap W.1 o
      refine ⟨?_, hC, fun x hx => (hM x hx).mono ⟨r, e⟩ ⟨[], (List.append_nil _).symm⟩ ⟨[], (List.append_nil _).symm⟩⟩
      show 1 ≤ (adO W.1 o).length
      rw [e, List.length_append]
      omega
  · split at h
    · split at h
      · cases h
      · rename_i p2 es o hk
        cases h
        obtain ⟨r, e⟩ := adO_ap W.2.1 o
        refine ⟨h1, ?_, fun x hx => (hM x hx).mono ⟨[], (List.append_nil _).symm⟩ ⟨r, e⟩ ⟨[], (List.append_nil _).symm⟩⟩
        have ho := cl_ok hk
        show WfC (adO W.2.1 o)
        cases o with
        | none => exact hC
        | some x =>
          intro y hy
          rcases List.mem_append.mp hy with z | z
          · exact hC y z
          · rw [List.mem_singleton] at z
            rw [z]
            exact ho x rfl
    · split at h
      · split at h
        · cases h
        · rename_i p2 es o hk
          cases h
          obtain ⟨r, e⟩ := adO_ap W.2.2.1 o
          exact ⟨h1, hC, fun x hx => (hM x hx).mono ⟨[], (List.append_nil _).symm⟩ ⟨[], (List.append_nil _).symm⟩ ⟨r, e⟩⟩
      · split at h
        · split at h
          · cases h
          · rename_i p2 es D hm
            have e0 := (Prod.mk.inj (Sum.inr.inj h)).2
            have e1 := (Prod.mk.inj e0).1
            have e2 := (Prod.mk.inj e0).2
            have he : es = [] := (ap_nil e1).1
            subst he
            have hk := mt_wf h1 hC hm
            rw [← e2]
            have old : ∀ x : Mtd, WfM W x → WfM (W.1, W.2.1, W.2.2.1, if W.2.2.2.length < 120 then W.2.2.2 ++ [(D, false)] else W.2.2.2) x := fun x hx => hx.mono ⟨[], (List.append_nil _).symm⟩ ⟨[], (List.append_nil _).symm⟩ ⟨[], (List.append_nil _).symm⟩
            refine ⟨h1, hC, fun x hx => old _ ?_⟩
            have hx : x ∈ (if W.2.2.2.length < 120 then W.2.2.2 ++ [(D, false)] else W.2.2.2) := hx
            split at hx
            · rcases List.mem_append.mp hx with z | z
              · exact hM x z
              · rw [List.mem_singleton] at z
                rw [z]
                exact hk
            · exact hM x hx
        · cases h
theorem tx_wf : ∀ f (W W' : Wld) p p', pTx t n f W p = .inr (p', [], W') → WfW W → WfW W'
  | 0, W, W', p, p', h, _ => by cases h
  | f + 1, W, W', p, p', h, hW => by
    rw [pTx] at h
    split at h
    · cases h
    · rename_i p2 es W2 hde
      split at h
      · cases h
        exact de_wf hde hW
      · split at h
        · cases h
        · rename_i p3 es2 W3 htx
          have e0 := (Prod.mk.inj (Sum.inr.inj h)).2
          have e1 := (Prod.mk.inj e0).1
          have e2 := (Prod.mk.inj e0).2
          by_cases he : es = []
          · rw [if_pos he] at e1
            rw [he] at hde
            rw [e1] at htx
            rw [← e2]
            exact tx_wf f _ _ _ _ htx (de_wf hde hW)
          · rw [if_neg he] at e1
            exact absurd e1 he
end WFM

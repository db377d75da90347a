/-! THE CLASS: a group, laid in a row -/
def cnN (nr : Nat → Nat → Int) (R : List Nat) (x : Nat) : Nat := (R.filter fun y => decide (nr y x = -1)).length
theorem cnN_0 {nr : Nat → Nat → Int} {R : List Nat} {x : Nat} : cnN nr R x = 0 ↔ (R.all fun y => decide (nr y x ≠ -1)) = true := by
  unfold cnN
  rw [List.length_eq_zero_iff, List.filter_eq_nil_iff, List.all_eq_true]
  simp only [decide_eq_true_iff]
theorem cnN_rm {nr : Nat → Nat → Int} {R : List Nat} {x e : Nat} (nd : R.Nodup) (he : e ∈ R) : cnN nr R x = cnN nr (R.filter (· ≠ e)) x + if nr e x = -1 then 1 else 0 := by
  obtain ⟨i, hi⟩ := List.mem_iff_getElem?.mp he
  have il := (List.getElem?_eq_some_iff.mp hi).1
  have gi : R.getD i 0 = e := by
    rw [List.getD_eq_getElem?_getD, hi]
    rfl
  have gi' : R[i] = e := (List.getElem?_eq_some_iff.mp hi).2
  have er := er_ne nd il
  rw [gi] at er
  rw [← er, List.eraseIdx_eq_take_drop_succ]
  have eR : R = R.take i ++ (e :: R.drop (i + 1)) := by
    rw [← gi', List.getElem_cons_drop, List.take_append_drop]
  unfold cnN
  conv => lhs; rw [eR]
  rw [List.filter_append, List.filter_append, List.length_append, List.length_append, List.filter_cons]
  by_cases q : nr e x = -1
  · rw [if_pos (decide_eq_true q), if_pos q, List.length_cons]
    omega
  · rw [if_neg (by rw [decide_eq_true_iff]; exact q), if_neg q]
    rfl
theorem cnN_le (nr : Nat → Nat → Int) (R : List Nat) (x : Nat) : cnN nr R x ≤ R.length := List.length_filter_le ..
section LAYC
variable {Z : zT} {d A u : Nat} {σ σ0 τ υ : Sg} {K : kS} {C : Nat × Nat × Nat × Nat} {W : Wld} {wy a0 c m n : Nat} {k : Nat → Nat} {G R : List Nat} {nr : Nat → Nat → Int} {st : Bool}
/-- how many that are left are nearer; -1: it is laid -/
def NoS (nr : Nat → Nat → Int) (G R : List Nat) (σ : Sg) : Prop := ∀ (i x : Nat), G[i]? = some x → σ.i 92 i = if x ∈ R then Int32.ofNat (cnN nr R x) else -1
/-- the first of a list, as an index of G -/
def HdX (G L : List Nat) (l : Int32) : Prop := (L = [] ∧ l = -1) ∨ ∃ i x t, L = x :: t ∧ G[i]? = some x ∧ l = Int32.ofNat i
theorem cl_pick (F : FX ΦC σ.sh σ.r) (hn : G.length ≤ 120) (hR : R = G.filter fun x => decide (x ∈ R)) (no : NoS nr G R σ) (k0 : pkE nr st R = none → K (.inl (some (.int (-1)))) σ) (k1 : ∀ i x, pkE nr st R = some x → G[i]? = some x → K (.inl (some (.int (Int32.ofNat i)))) σ) : C_X0_pickNext_0 Z (d + 1) σ (Int32.ofNat G.length) (if st = true then 1 else 0) K := by
  have rl : R.length ≤ 120 := by
    rw [hR]
    exact Nat.le_trans (List.length_filter_le ..) hn
  have fe : frE nr R = G.filter fun x => decide (x ∈ R) && R.all fun y => decide (nr y x ≠ -1) := by
    conv => lhs; unfold frE; arg 2; rw [hR]
    rw [List.filter_filter]
    refine List.filter_congr (fun x _ => ?_)
    rw [Bool.and_comm]
  have lp : ∀ (i : Nat) (l3 : Nat) (l4 l5 : Int32), i ≤ G.length → l3 = ((G.drop i).filter fun x => decide (x ∈ R) && R.all fun y => decide (nr y x ≠ -1)).length → HdX G ((G.drop i).filter fun x => decide (x ∈ R) && R.all fun y => decide (nr y x ≠ -1)) l4 → HdX G ((G.drop i).filter fun x => decide (x ∈ R)) l5 → C_X0_pickNext_13 Z (d + 1) σ (if st = true then 1 else 0) (Int32.ofNat l3) l4 l5 (Int32.ofNat i - 1) K := by
    intro i
    induction i with
    | zero =>
      intro l3 l4 l5 _ h3 h4 h5
      rw [List.drop_zero, ← fe] at h3 h4
      rw [List.drop_zero, ← hR] at h5
      have l3b : l3 ≤ 120 := by
        rw [h3, fe]
        exact Nat.le_trans (List.length_filter_le ..) hn
      refine T_X0_pickNext_13 F ?_
      rw [show Int32.ofNat 0 - 1 = -1 by decide, show Int32.ofNat l3 ≤ 0 ↔ l3 ≤ 0 from oN_le (b := 0) (by omega) (by decide), show Int32.ofNat l3 = 1 ↔ l3 = 1 from oN_eq (b := 1) (by omega) (by decide)]
      refine ⟨fun _ => ?_, fun z => absurd (by decide) z⟩
      unfold pkE at k0 k1
      cases st with
      | false =>
        rw [if_neg (by decide)] at k0 k1 ⊢
        refine ⟨fun _ => ⟨fun z => ?_, fun z => ?_⟩, fun z => absurd rfl z⟩
        · have e0 : frE nr R = [] := List.length_eq_zero_iff.mp (by omega)
          rw [e0] at k0 k1
          dsimp only at k0 k1
          rcases h5 with ⟨q1, q2⟩ | ⟨i, x, t, q1, q2, q3⟩
          · rw [q2]
            rw [q1] at k0
            exact k0 rfl
          · rw [q3]
            rw [q1] at k1
            exact k1 i x rfl q2
        · rcases h4 with ⟨q1, q2⟩ | ⟨i, x, t, q1, q2, q3⟩
          · rw [q1] at h3
            exact absurd h3 (by show ¬ l3 = 0; omega)
          · rw [q3]
            rw [q1] at k1
            exact k1 i x rfl q2
      | true =>
        rw [if_pos rfl] at k0 k1 ⊢
        refine ⟨fun z => absurd z (by decide), fun _ => ⟨fun z => ?_, fun z => ?_⟩⟩
        · refine k0 ?_
          match e : frE nr R with
          | [] => rfl
          | [x] =>
            rw [e] at h3
            exact absurd h3 z
          | a :: b :: r => rfl
        · rcases h4 with ⟨q1, q2⟩ | ⟨i, x, t, q1, q2, q3⟩
          · rw [q1, z] at h3
            cases h3
          · have ht : t = [] := by
              rw [q1, z, List.length_cons] at h3
              exact List.length_eq_zero_iff.mp (by omega)
            subst ht
            rw [q3]
            rw [q1] at k1
            exact k1 i x rfl q2
    | succ i ih =>
      intro l3 l4 l5 hi h3 h4 h5
      have hx := List.getElem?_eq_getElem (show i < G.length by omega)
      have en := no i _ hx
      have ed : G.drop i = G[i] :: G.drop (i + 1) := (List.getElem_cons_drop (h := by omega)).symm
      have e1 : Int32.ofNat (i + 1) - 1 = Int32.ofNat i := oN_p1 (m := i + 1) (by omega)
      have em : Int32.ofNat i + (-1) = Int32.ofNat i - 1 := (Int32.sub_eq_add_neg _ _).symm
      have cb := cnN_le nr R G[i]
      refine T_X0_pickNext_13 F ?_
      rw [e1, show Int32.ofNat i < 0 ↔ i < 0 from oN_lt (b := 0) (by omega) (by decide), oN_t (by omega), en]
      refine ⟨fun z => absurd z (by omega), fun _ => ⟨ib_oN (by omega) (by decide), fun z => ?_, fun z => ?_⟩⟩
      · have nm : ¬ G[i] ∈ R := fun q => by
          rw [if_pos q, show (-1 : Int32) = Int32.ofInt (-1) from rfl] at z
          have := congrArg Int32.toInt z
          rw [oN_i (by omega)] at this
          have : ((cnN nr R G[i] : Nat) : Int) = -1 := this
          omega
        refine T_X0_pickNext_33 F ?_
        rw [oN_t (by omega), en, if_neg nm, em]
        refine ⟨ib_oN (by omega) (by decide), fun _ => ih l3 l4 l5 (by omega) ?_ ?_ ?_, fun q => absurd q (by decide)⟩
        · rw [ed, List.filter_cons_of_neg (by rw [decide_eq_false nm]; exact Bool.false_ne_true)]
          exact h3
        · rw [ed, List.filter_cons_of_neg (by rw [decide_eq_false nm]; exact Bool.false_ne_true)]
          exact h4
        · rw [ed, List.filter_cons_of_neg (by rw [decide_eq_false nm]; exact Bool.false_ne_true)]
          exact h5
      · have mm : G[i] ∈ R := Classical.byContradiction fun q => z (by rw [if_neg q])
        have n5 : HdX G ((G.drop i).filter fun x => decide (x ∈ R)) (Int32.ofNat i) := by
          rw [ed, List.filter_cons_of_pos (p := fun x => decide (x ∈ R)) (decide_eq_true mm)]
          exact Or.inr ⟨i, _, _, rfl, hx, rfl⟩
        refine T_X0_pickNext_33 F ?_
        rw [oN_t (by omega), en, if_pos mm, em, show Int32.ofNat (cnN nr R G[i]) = 0 ↔ cnN nr R G[i] = 0 from oN_eq (b := 0) (by omega) (by decide), oN_1]
        refine ⟨ib_oN (by omega) (by decide), fun q => ih l3 l4 (Int32.ofNat i) (by omega) ?_ ?_ n5, fun q => ih (l3 + 1) (Int32.ofNat i) (Int32.ofNat i) (by omega) ?_ ?_ n5⟩
        · rw [ed, List.filter_cons_of_neg]
          · exact h3
          · rw [Bool.and_eq_true_iff]
            exact fun y => q (cnN_0.mpr y.2)
        · rw [ed, List.filter_cons_of_neg]
          · exact h4
          · rw [Bool.and_eq_true_iff]
            exact fun y => q (cnN_0.mpr y.2)
        · rw [ed, List.filter_cons_of_pos]
          · rw [List.length_cons, h3]
          · rw [decide_eq_true mm, cnN_0.mp q]
            rfl
        · rw [ed, List.filter_cons_of_pos]
          · exact Or.inr ⟨i, _, _, rfl, hx, rfl⟩
          · rw [decide_eq_true mm, cnN_0.mp q]
            rfl
  refine T_X0_pickNext_0 F ?_
  refine lp G.length 0 (-1) (-1) (Nat.le_refl _) ?_ (Or.inl ⟨?_, rfl⟩) (Or.inl ⟨?_, rfl⟩)
  · rw [List.drop_of_length_le (Nat.le_refl _)]
    rfl
  · rw [List.drop_of_length_le (Nat.le_refl _)]
    rfl
  · rw [List.drop_of_length_le (Nat.le_refl _)]
    rfl
/-- what laying a group may write -/
def LaF (σ τ : Sg) : Prop := NhE (fun a => a = 85 ∨ a = 92) σ τ
theorem LaF.tr (h : LaF σ τ) (g : LaF τ υ) : LaF σ υ := NhE.tr h g
/-- while a group is laid -/
def GrC (C : Nat × Nat × Nat × Nat) (W : Wld) (wy a0 c : Nat) (k : Nat → Nat) (G : List Nat) (σ : Sg) : Prop := QwS C W wy a0 σ ∧ NeS W σ ∧ KaS W 89 (plW W.2.1 c) k σ ∧ RoS 91 G σ
theorem GrC.xf {E : Nat → Prop} (h : GrC C W wy a0 c k G σ) (g : XF E σ τ) (hE : ∀ a, E a → a = 85 ∨ a = 92) : GrC C W wy a0 c k G τ := by
  obtain ⟨h1, h2, h3, h4⟩ := h
  refine ⟨h1.xf g (fun a q => by have := hE a q; omega), h2.xf g (fun a q => by have := hE a q; omega), h3.xf g (fun q => by have := hE _ q; omega), fun i y hy => ?_⟩
  rw [(g.2.2 91 (fun q => by have := hE _ q; omega)).1]
  exact h4 i y hy
theorem GrC.nh (h : GrC C W wy a0 c k G σ) (g : NhF σ τ) (n' : NeS W τ) : GrC C W wy a0 c k G τ := by
  obtain ⟨h1, h2, h3, h4⟩ := h
  refine ⟨h1.nh h2.sq g, n', h3.nh h2.sq g (by omega), fun i y hy => ?_⟩
  rw [(g.row h1.1.1 h2.sq (a := 91) (by omega)).1]
  exact h4 i y hy
theorem filt_ne (nd : G.Nodup) (hR : R = G.filter fun x => decide (x ∈ R)) {e : Nat} : R.filter (· ≠ e) = G.filter fun x => decide (x ∈ R.filter (· ≠ e)) := by
  conv => lhs; arg 2; rw [hR]
  rw [List.filter_filter]
  refine List.filter_congr (fun x _ => ?_)
  rw [Bool.eq_iff_iff, Bool.and_eq_true_iff, decide_eq_true_iff, decide_eq_true_iff, decide_eq_true_iff, List.mem_filter, decide_eq_true_iff]
  exact ⟨fun q => ⟨q.2, q.1⟩, fun q => ⟨q.2, q.1⟩⟩
/-- one is laid: those it is nearer than -/
theorem lg_158 {q e : Nat} {l2 l3 l4 : Int32} (hA : ∀ x ∈ G, x ∈ ftL W c k) (nd : G.Nodup) (hn : G.length ≤ 120) (ndR : R.Nodup) (hRl : R.length ≤ 120) (hq : G[q]? = some e) (he : e ∈ R) (σ0 : Sg) (kk : ∀ τ, NhE (fun a => a = 92) σ0 τ → GrC C W wy a0 c k G τ → NoS (fun x y => nrI W wy x y k) G (R.filter (· ≠ e)) τ → C_X0_layGroup_109 Z (d + 5) τ (Int32.ofNat G.length) l2 l3 (l4 + 1) K) : ∀ (r i : Nat) (τ : Sg), i + r = G.length → NhE (fun a => a = 92) σ0 τ → GrC C W wy a0 c k G τ → (∀ i' x, i' < i → G[i']? = some x → τ.i 92 i' = if x ∈ R.filter (· ≠ e) then Int32.ofNat (cnN (fun x y => nrI W wy x y k) (R.filter (· ≠ e)) x) else -1) → (∀ i' x, i ≤ i' → G[i']? = some x → τ.i 92 i' = if x ∈ R.filter (· ≠ e) then Int32.ofNat (cnN (fun x y => nrI W wy x y k) R x) else -1) → C_X0_layGroup_158 Z (d + 5) τ (Int32.ofNat G.length) l2 l3 l4 (Int32.ofNat q) (Int32.ofNat i) K := by
  have rl : (R.filter (· ≠ e)).length ≤ R.length := List.length_filter_le ..
  intro r
  induction r with
  | zero =>
    intro i τ hi g H h1 h2
    refine T_X0_layGroup_158 H.1.1.1 ?_
    rw [oN_le (by omega) (by omega)]
    exact ⟨fun _ => kk τ g H (fun i' x hx => h1 i' x (by have := (List.getElem?_eq_some_iff.mp hx).1; omega) hx), fun z => absurd (by omega) z⟩
  | succ r ih =>
    intro i τ hi g H h1 h2
    have hx := List.getElem?_eq_getElem (show i < G.length by omega)
    have ei := h2 i _ (Nat.le_refl _) hx
    have g91 := H.2.2.2
    have ql := (List.getElem?_eq_some_iff.mp hq).1
    have lm : G[i] ∈ G := List.getElem_mem _
    have le : e ∈ G := List.mem_of_getElem? hq
    have rm := cnN_rm (nr := fun x y => nrI W wy x y k) (x := G[i]) ndR he
    have nxt : ∀ υ, NhE (fun a => a = 92) σ0 υ → GrC C W wy a0 c k G υ → (∀ i', i' ≠ i → υ.i 92 i' = τ.i 92 i') → (υ.i 92 i = if G[i] ∈ R.filter (· ≠ e) then Int32.ofNat (cnN (fun x y => nrI W wy x y k) (R.filter (· ≠ e)) G[i]) else -1) → C_X0_layGroup_158 Z (d + 5) υ (Int32.ofNat G.length) l2 l3 l4 (Int32.ofNat q) (Int32.ofNat (i + 1)) K := fun υ gυ Hυ s1 s2 => by
      refine ih (i + 1) υ (by omega) gυ Hυ (fun i' x q1 q2 => ?_) (fun i' x q1 q2 => ?_)
      · by_cases z : i' = i
        · subst z
          rw [hx] at q2
          rw [← Option.some.inj q2]
          exact s2
        · rw [s1 i' z]
          exact h1 i' x (by omega) q2
      · rw [s1 i' (by omega)]
        exact h2 i' x (by omega) q2
    have rb := cnN_le (fun x y => nrI W wy x y k) R G[i]
    have mq := H.2.2.2 q e hq
    have mi := H.2.2.2 i _ hx
    refine T_X0_layGroup_158 H.1.1.1 ?_
    rw [oN_le (by omega) (by omega), oN_t (by omega), ei, oN_1 i]
    refine ⟨fun z => absurd z (by omega), fun _ => ⟨ib_oN (by omega) (by decide), ?_⟩⟩
    by_cases mR : G[i] ∈ R.filter (· ≠ e)
    · rw [if_pos mR] at ei nxt ⊢
      rw [show Int32.ofNat (cnN (fun x y => nrI W wy x y k) R G[i]) ≤ 0 ↔ cnN (fun x y => nrI W wy x y k) R G[i] ≤ 0 from oN_le (b := 0) (by omega) (by decide), oN_t (by omega), mq, mi]
      refine ⟨fun z => nxt τ g H (fun _ _ => rfl) ?_, fun z => ⟨ib_oN (by omega) (by decide), ib_oN (by omega) (by decide), ?_⟩⟩
      · rw [ei]
        congr 1
        split at rm <;> omega
      · refine cl_cmpF H.1 H.2.1 H.2.2.1 (by omega) (hA e le) (hA _ lm) (fun υ gn n' => ?_)
        have gυ : NhE (fun a => a = 92) σ0 υ := g.tr gn.he
        have Hυ := H.nh gn n'
        have e92 : υ.i 92 = τ.i 92 := (gn.row H.1.1.1 H.2.1.sq (a := 92) (by omega)).1
        show (0 ≤ Int32.ofInt (nrI W wy e G[i] k) → _) ∧ (¬ 0 ≤ Int32.ofInt (nrI W wy e G[i] k) → _)
        rw [(nr_m1 W wy e G[i] k).2.1, e92, ei]
        refine ⟨fun y => nxt υ gυ Hυ (fun i' _ => by rw [e92]) ?_, fun y => ⟨ib_oN (by omega) (by decide), ib_oN (by omega) (by decide), ?_⟩⟩
        · rw [e92, ei]
          rw [if_neg y] at rm
          congr 1
        · rw [oN_p1 (by omega)]
          rw [if_pos (Classical.not_not.mp y)] at rm
          refine nxt _ (gυ.wx rfl (by decide)) (Hυ.xf (E := fun a => a = 92) ((XF.refl _ _).wi rfl) (fun a q => Or.inr q)) (fun i' hi' => by rw [wi_ne (by omega), e92]) ?_
          rw [wi_at]
          congr 1
          omega
    · rw [if_neg mR] at ei nxt ⊢
      exact ⟨fun _ => nxt τ g H (fun _ _ => rfl) ei, fun z => absurd (by decide) z⟩
/-- the nearest first -/
theorem lg_109 {s0 : Nat} (hA : ∀ x ∈ G, x ∈ ftL W c k) (nd : G.Nodup) (hn : G.length ≤ 120) (hs : s0 + G.length ≤ 3328) (σ0 : Sg) (kk : ∀ τ, LaF σ0 τ → GrC C W wy a0 c k G τ → (∀ j, j < s0 ∨ s0 + G.length ≤ j → τ.i 85 j = σ0.i 85 j) → (∀ (j x : Nat), (lyHE (fun x y => nrI W wy x y k) st G.length G).1[j]? = some x → τ.i 85 (s0 + j) = Int32.ofNat x) → K (.inl (some (.int (Int32.ofNat (lyHE (fun x y => nrI W wy x y k) st G.length G).1.length)))) τ) : ∀ (f : Nat) (D R : List Nat) (τ : Sg), D.length + f = G.length → R.length = f → R.Nodup → R = G.filter (fun x => decide (x ∈ R)) → LaF σ0 τ → GrC C W wy a0 c k G τ → NoS (fun x y => nrI W wy x y k) G R τ → (∀ j, j < s0 ∨ s0 + G.length ≤ j → τ.i 85 j = σ0.i 85 j) → (∀ (j x : Nat), D[j]? = some x → τ.i 85 (s0 + j) = Int32.ofNat x) → (lyHE (fun x y => nrI W wy x y k) st G.length G).1 = D ++ (lyHE (fun x y => nrI W wy x y k) st f R).1 → C_X0_layGroup_109 Z (d + 5) τ (Int32.ofNat G.length) (if st = true then 1 else 0) (Int32.ofNat s0) (Int32.ofNat D.length) K := by
  intro f
  induction f with
  | zero =>
    intro D R τ hD hR nR sR g H no g85 d85 eL
    refine T_X0_layGroup_109 H.1.1.1 ?_
    rw [oN_le (by omega) (by omega)]
    refine ⟨fun _ => ?_, fun z => absurd (by omega) z⟩
    have eL' : (lyHE (fun x y => nrI W wy x y k) st G.length G).1 = D := by
      rw [eL]
      exact List.append_nil _
    have := kk τ g H g85 (by rw [eL']; exact d85)
    rw [eL', show D.length = G.length by omega] at this
    exact this
  | succ f ih =>
    intro D R τ hD hR nR sR g H no g85 d85 eL
    have Rne : R ≠ [] := fun q => by
      rw [q] at hR
      cases hR
    refine T_X0_layGroup_109 H.1.1.1 ?_
    rw [oN_le (by omega) (by omega)]
    refine ⟨fun z => absurd z (by omega), fun _ => cl_pick H.1.1.1 hn sR no (fun pk => ?_) (fun q e pk hq => ?_)⟩
    · rw [lyHE, if_neg Rne, pk] at eL
      have eL' : (lyHE (fun x y => nrI W wy x y k) st G.length G).1 = D := by
        rw [eL]
        exact List.append_nil _
      have := kk τ g H g85 (by rw [eL']; exact d85)
      rw [eL'] at this
      exact ⟨fun z => absurd z (by decide), fun _ => this⟩
    · have ql := (List.getElem?_eq_some_iff.mp hq).1
      have he : e ∈ R := by
        have sub : ∀ y ∈ frE (fun x y => nrI W wy x y k) R, y ∈ R := fun y hy => (List.mem_filter.mp hy).1
        unfold pkE at pk
        split at pk
        · match q : frE (fun x y => nrI W wy x y k) R, pk with
          | [z], pk =>
            cases pk
            exact sub e (by rw [q]; exact List.mem_singleton.mpr rfl)
        · match q : frE (fun x y => nrI W wy x y k) R, pk with
          | z :: _, pk =>
            cases pk
            exact sub e (by rw [q]; exact List.mem_cons_self ..)
          | [], pk => exact List.mem_of_head? pk
      rw [lyHE, if_neg Rne, pk] at eL
      dsimp only at eL
      have m91 := H.2.2.2 q e hq
      show (0 ≤ Int32.ofNat q → _) ∧ (¬ 0 ≤ Int32.ofNat q → _)
      rw [show (0 : Int32) ≤ Int32.ofNat q ↔ 0 ≤ q from oN_le (a := 0) (by decide) (by omega), oN_add, oN_t (by omega), oN_t (by omega), m91]
      refine ⟨fun _ => ⟨ib_oN (by omega) (by decide), ib_oN (by omega) (by decide), ib_oN (by omega) (by decide), ?_⟩, fun z => absurd (Nat.zero_le _) z⟩
      have x1 : XF (fun a => a = 85 ∨ a = 92) τ ((τ.wi 85 (s0 + D.length) (Int32.ofNat e)).wi 92 q (-1)) := ((XF.refl _ _).wi (Or.inl rfl)).wi (Or.inr rfl)
      have H1 := H.xf x1 (fun a q => q)
      have Rl : R.length ≤ 120 := by
        rw [hR]
        omega
      refine lg_158 hA nd hn nR Rl hq he _ (fun υ gυ Hυ nυ => ?_) G.length 0 _ (by omega) (NhE.refl _ _) H1 (fun i' x z => absurd z (Nat.not_lt_zero _)) (fun i' x _ hx => ?_)
      · rw [oN_1]
        have e85 : υ.i 85 = (τ.wi 85 (s0 + D.length) (Int32.ofNat e)).i 85 := by
          rw [(gυ.row H1.1.1.1 H1.2.1.sq (a := 85) (by omega)).1]
          exact funext fun j => wi_ne (by omega)
        have rm : (R.filter (· ≠ e)).length = f := by
          obtain ⟨i, hi⟩ := List.mem_iff_getElem?.mp he
          have il := (List.getElem?_eq_some_iff.mp hi).1
          have gi : R.getD i 0 = e := by
            rw [List.getD_eq_getElem?_getD, hi]
            rfl
          have := er_ne nR il
          rw [gi] at this
          rw [← this, List.length_eraseIdx, if_pos il]
          omega
        have gT : LaF σ0 υ := LaF.tr g (NhE.tr (x1.he (fun a q => by omega) (by omega)) (gυ.mono (fun a q => by omega)))
        have := ih (D ++ [e]) (R.filter (· ≠ e)) υ (by rw [List.length_append, List.length_singleton]; omega) rm (List.Pairwise.sublist List.filter_sublist nR) (filt_ne nd sR) gT Hυ nυ (fun j hj => ?_) (fun j x hj => ?_) (by rw [List.append_assoc]; exact eL)
        · rw [List.length_append, List.length_singleton] at this
          exact this
        · rw [e85, wi_ne (by omega)]
          exact g85 j hj
        · rw [e85]
          by_cases z : j < D.length
          · rw [List.getElem?_append_left z] at hj
            rw [wi_ne (by omega)]
            exact d85 j x hj
          · rw [List.getElem?_append_right (by omega)] at hj
            have jl := (List.getElem?_eq_some_iff.mp hj).1
            rw [List.length_singleton] at jl
            have je : j = D.length := by omega
            subst je
            rw [Nat.sub_self] at hj
            cases hj
            exact wi_at ..
      · by_cases z : i' = q
        · subst z
          rw [hq] at hx
          cases hx
          have nm : ¬ e ∈ R.filter (· ≠ e) := fun y => by
            have := (List.mem_filter.mp y).2
            simp at this
          rw [wi_at, if_neg nm]
        · have xe : x ≠ e := fun y => by
            subst y
            exact z ((List.getElem?_inj (List.getElem?_eq_some_iff.mp hx).1 nd).mp (hx.trans hq.symm))
          rw [wi_ne (by omega), wi_ne (by omega), no i' x hx]
          by_cases xm : x ∈ R
          · rw [if_pos xm, if_pos (List.mem_filter.mpr ⟨xm, decide_eq_true xe⟩)]
          · rw [if_neg xm, if_neg (fun y => xm (List.mem_filter.mp y).1)]
/-- counting who is nearer -/
theorem lg_20 {l2 l3 : Int32} {i : Nat} (hA : ∀ x ∈ G, x ∈ ftL W c k) (hn : G.length ≤ 120) (hi : i < G.length) (σ0 : Sg) (kk : ∀ τ, NhE (fun a => a = 92) σ0 τ → GrC C W wy a0 c k G τ → (∀ a x, a < i + 1 → G[a]? = some x → τ.i 92 a = Int32.ofNat (cnN (fun x y => nrI W wy x y k) (G.take (i + 1)) x)) → C_X0_layGroup_3 Z (d + 5) τ (Int32.ofNat G.length) l2 l3 (Int32.ofNat (i + 1)) K) : ∀ (r j : Nat) (τ : Sg), j + r = i → NhE (fun a => a = 92) σ0 τ → GrC C W wy a0 c k G τ → (τ.i 92 i = Int32.ofNat (cnN (fun x y => nrI W wy x y k) (G.take j) G[i])) → (∀ a x, a < j → G[a]? = some x → τ.i 92 a = Int32.ofNat (cnN (fun x y => nrI W wy x y k) (G.take (i + 1)) x)) → (∀ a x, j ≤ a → a < i → G[a]? = some x → τ.i 92 a = Int32.ofNat (cnN (fun x y => nrI W wy x y k) (G.take i) x)) → C_X0_layGroup_20 Z (d + 5) τ (Int32.ofNat G.length) l2 l3 (Int32.ofNat i) (Int32.ofNat j) K := by
  have hx := List.getElem?_eq_getElem hi
  have tk : ∀ j, j < G.length → ∀ x, cnN (fun x y => nrI W wy x y k) (G.take (j + 1)) x = cnN (fun x y => nrI W wy x y k) (G.take j) x + if nrI W wy (G.getD j 0) x k = -1 then 1 else 0 := fun j hj x => by
    have gj : G.getD j 0 = G[j] := by
      rw [List.getD_eq_getElem?_getD, List.getElem?_eq_getElem hj]
      rfl
    have et : G.take (j + 1) = G.take j ++ [G[j]] := by
      rw [List.take_succ, List.getElem?_eq_getElem hj]
      rfl
    rw [gj]
    unfold cnN
    rw [et, List.filter_append, List.length_append, List.filter_cons]
    by_cases q : nrI W wy G[j] x k = -1
    · rw [if_pos (decide_eq_true q), if_pos q]
      rfl
    · rw [if_neg (by rw [decide_eq_true_iff]; exact q), if_neg q]
      rfl
  intro r
  induction r with
  | zero =>
    intro j τ hj g H h1 h2 h3
    have ej : j = i := by omega
    subst ej
    refine T_X0_layGroup_20 H.1.1.1 ⟨fun _ => ?_, fun z => absurd (Int32.le_refl _) z⟩
    rw [oN_1]
    refine kk τ g H (fun a x ha hax => ?_)
    by_cases e : a = j
    · subst e
      rw [hx] at hax
      rw [← Option.some.inj hax, h1, tk a hi]
      have gj : G.getD a 0 = G[a] := by
        rw [List.getD_eq_getElem?_getD, hx]
        rfl
      rw [gj, if_neg (lt_irr _)]
      rfl
    · exact h2 a x (by omega) hax
  | succ r ih =>
    intro j τ hj g H h1 h2 h3
    have kl : ∀ p, p < plW W.2.1 c → k p < W.1.length := fun p hp => (H.2.2.1.2 p hp).2
    have hjx := List.getElem?_eq_getElem (show j < G.length by omega)
    have gj : G.getD j 0 = G[j] := by
      rw [List.getD_eq_getElem?_getD, hjx]
      rfl
    have gi : G.getD i 0 = G[i] := by
      rw [List.getD_eq_getElem?_getD, hx]
      rfl
    have mj := H.2.2.2 j _ hjx
    have mi := H.2.2.2 i _ hx
    have lj : G[j] ∈ G := List.getElem_mem _
    have li : G[i] ∈ G := List.getElem_mem _
    have fj : FtM W c k G[j] := by
      obtain ⟨_, _, _, _, _, _, _, q⟩ := ft_at H.1.1 kl (hA _ lj)
      exact q
    have fi : FtM W c k G[i] := by
      obtain ⟨_, _, _, _, _, _, _, q⟩ := ft_at H.1.1 kl (hA _ li)
      exact q
    have as := nr_as H.1.1.2.2.1.ro H.1.2.2.1.2 fj fi
    refine T_X0_layGroup_20 H.1.1.1 ?_
    rw [oN_le (by omega) (by omega), oN_t (by omega), oN_t (by omega), mj, mi]
    refine ⟨fun z => absurd z (by omega), fun _ => ⟨ib_oN (by omega) (by decide), ib_oN (by omega) (by decide), ?_⟩⟩
    refine cl_cmpF H.1 H.2.1 H.2.2.1 (by omega) (hA _ lj) (hA _ li) (fun υ gn n' => ⟨ib_oN (by omega) (by decide), ?_⟩)
    have gυ : NhE (fun a => a = 92) σ0 υ := g.tr gn.he
    have Hυ := H.nh gn n'
    have e92 : υ.i 92 = τ.i 92 := (gn.row H.1.1.1 H.2.1.sq (a := 92) (by omega)).1
    have s72 : ∀ s3 : Nat, s3 = (if nrI W wy G[j] G[i] k = -1 then 1 else 0) → C_X0_layGroup_72 Z (d + 5) υ (Int32.ofNat G.length) l2 l3 (Int32.ofNat i) (Int32.ofNat j) (Int32.ofInt (nrI W wy G[j] G[i] k)) (Int32.ofNat i) (Int32.ofNat (cnN (fun x y => nrI W wy x y k) (G.take j) G[i])) (Int32.ofNat s3) K := fun s3 e3 => by
      have tj := tk j (by omega) G[i]
      rw [gj, ← e3] at tj
      refine T_X0_layGroup_72 Hυ.1.1.1 ?_
      rw [oN_add, ← tj, oN_t (by omega), oN_t (by omega), wi_ne (by omega), e92, h3 j _ (Nat.le_refl _) (by omega) hjx, oN_1 j]
      refine ⟨ib_oN (by omega) (by decide), ib_oN (by omega) (by decide), fun z => ⟨ib_oN (by omega) (by decide), ?_⟩, fun z => ⟨ib_oN (by omega) (by decide), ?_⟩⟩
      all_goals
        have fin : ∀ v : Nat, v = cnN (fun x y => nrI W wy x y k) (G.take (i + 1)) G[j] → C_X0_layGroup_20 Z (d + 5) ((υ.wi 92 i (Int32.ofNat (cnN (fun x y => nrI W wy x y k) (G.take (j + 1)) G[i]))).wi 92 j (Int32.ofNat v)) (Int32.ofNat G.length) l2 l3 (Int32.ofNat i) (Int32.ofNat (j + 1)) K := fun v ev => by
          have x1 : XF (fun a => a = 92) υ ((υ.wi 92 i (Int32.ofNat (cnN (fun x y => nrI W wy x y k) (G.take (j + 1)) G[i]))).wi 92 j (Int32.ofNat v)) := ((XF.refl (fun a => a = 92) υ).wi rfl).wi rfl
          refine ih (j + 1) _ (by omega) (gυ.tr (x1.he (fun a q => Or.inr q) (by decide))) (Hυ.xf x1 (fun a q => Or.inr q)) ?_ (fun a x ha hax => ?_) (fun a x ha1 ha2 hax => ?_)
          · rw [wi_ne (by omega), wi_at]
          · by_cases z : a = j
            · subst z
              rw [hjx] at hax
              rw [← Option.some.inj hax, wi_at, ev]
            · rw [wi_ne (by omega), wi_ne (by omega), e92]
              exact h2 a x (by omega) hax
          · rw [wi_ne (by omega), wi_ne (by omega), e92]
            exact h3 a x (by omega) ha2 hax
        have ti := tk i hi G[j]
        rw [gi] at ti
      · have no : ¬ nrI W wy G[i] G[j] k = -1 := fun q => by
          have := as.mpr q
          rw [this] at z
          exact absurd z (by decide)
        rw [if_neg no] at ti
        rw [show (0 : Int32) = Int32.ofNat 0 from rfl, oN_add]
        exact fin _ ti.symm
      · have yes : nrI W wy G[i] G[j] k = -1 := as.mp (by
          have r := nrI_r W wy G[j] G[i] k
          refine Classical.byContradiction fun q => z ?_
          have : nrI W wy G[j] G[i] k = -1 ∨ nrI W wy G[j] G[i] k = 0 := by omega
          rcases this with e | e <;> rw [e] <;> decide)
        rw [if_pos yes] at ti
        rw [oN_1]
        exact fin _ ti.symm
    rw [e92, h1, (nr_m1 W wy G[j] G[i] k).2.1]
    refine ⟨fun z => s72 0 ?_, fun z => s72 1 ?_⟩
    · rw [if_neg z]
    · rw [if_pos (Classical.not_not.mp z)]
theorem cl_layGroup {s0 : Nat} (hA : ∀ x ∈ G, x ∈ ftL W c k) (nd : G.Nodup) (hn : G.length ≤ 120) (hs : s0 + G.length ≤ 3328) (H : GrC C W wy a0 c k G σ) (kk : ∀ τ, LaF σ τ → GrC C W wy a0 c k G τ → (∀ j, j < s0 ∨ s0 + G.length ≤ j → τ.i 85 j = σ.i 85 j) → (∀ (j x : Nat), (lyG (fun x y => nrI W wy x y k) st G.length G).1[j]? = some x → τ.i 85 (s0 + j) = Int32.ofNat x) → K (.inl (some (.int (Int32.ofNat (lyG (fun x y => nrI W wy x y k) st G.length G).1.length)))) τ) : C_X0_layGroup_0 Z (d + 5) σ (Int32.ofNat G.length) (if st = true then 1 else 0) (Int32.ofNat s0) K := by
  rw [ly_eq (fun x => lt_irr x) _ _ nd] at kk
  have H0 := H
  have lp : ∀ (r i : Nat) (τ : Sg), i + r = G.length → NhE (fun a => a = 92) σ τ → GrC C W wy a0 c k G τ → (∀ a x, a < i → G[a]? = some x → τ.i 92 a = Int32.ofNat (cnN (fun x y => nrI W wy x y k) (G.take i) x)) → C_X0_layGroup_3 Z (d + 5) τ (Int32.ofNat G.length) (if st = true then 1 else 0) (Int32.ofNat s0) (Int32.ofNat i) K := by
    intro r
    induction r with
    | zero =>
      intro i τ hi g H h1
      have ei : i = G.length := by omega
      subst ei
      rw [List.take_length] at h1
      refine T_X0_layGroup_3 H.1.1.1 ⟨fun _ => ?_, fun z => absurd (Int32.le_refl _) z⟩
      have gl : LaF σ τ := g.mono (fun a q => by omega)
      refine lg_109 (st := st) hA nd hn hs σ kk G.length [] G τ (Nat.zero_add _) rfl nd (List.filter_eq_self.mpr (fun a ha => decide_eq_true ha)).symm gl H (fun i x hx => ?_) (fun j _ => by rw [(g.row H0.1.1.1 H0.2.1.sq (a := 85) (by omega)).1]) (fun j x q => by cases q) rfl
      rw [if_pos (List.mem_of_getElem? hx)]
      exact h1 i x (List.getElem?_eq_some_iff.mp hx).1 hx
    | succ r ih =>
      intro i τ hi g H h1
      have hx := List.getElem?_eq_getElem (show i < G.length by omega)
      refine T_X0_layGroup_3 H.1.1.1 ?_
      rw [oN_le (by omega) (by omega), oN_t (by omega)]
      refine ⟨fun z => absurd z (by omega), fun _ => ⟨ib_oN (by omega) (by decide), ?_⟩⟩
      have x1 : XF (fun a => a = 92) τ (τ.wi 92 i 0) := (XF.refl _ _).wi rfl
      refine lg_20 hA hn (by omega) σ (fun υ gυ Hυ nυ => ih (i + 1) υ (by omega) gυ Hυ nυ) i 0 _ (by omega) (g.tr (x1.he (fun a q => Or.inr q) (by decide))) (H.xf x1 (fun a q => Or.inr q)) ?_ (fun a x z => absurd z (Nat.not_lt_zero _)) (fun a x _ ha hax => ?_)
      · rw [wi_at]
        rfl
      · rw [wi_ne (by omega)]
        exact h1 a x ha hax
  exact T_X0_layGroup_0 H.1.1.1 (lp G.length 0 σ (by omega) (NhE.refl _ _) H (fun a x z => absurd z (Nat.not_lt_zero _)))
end LAYC

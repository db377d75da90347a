/-! THE REFERENCE: lists(), cells() -/
section LISTS2
variable {Z : zT} {d : Nat} {W : Wld} {σ τ : Sg} {K : kS} {c : Nat}
theorem grW_len (W : Wld) (c i : Nat) (h : W.1.length ≤ 24) : (grW W c i).length ≤ 24 := by
  have h1 := grA_len (alB W c i) (mkW W.1) []
  have h2 : (mkW W.1).length ≤ W.1.length := by
    unfold mkW
    have := List.length_filter_le (fun k => !(((W.1[k]?).map (·.2.1)).getD false)) (List.range W.1.length)
    rw [List.length_range] at this
    exact this
  have h3 : ([] : List Nat).length = 0 := rfl
  unfold grW
  omega
theorem pl_le (H : W3 W.1 W.2.1 W.2.2.1 σ) (hc : c < W.2.1.length) : 1 ≤ plW W.2.1 c ∧ plW W.2.1 c ≤ 3 := by
  have e : W.2.1[c]? = some W.2.1[c] := List.getElem?_eq_getElem hc
  have := (H.2.1.2.2 c _ e).2.1
  unfold plW
  rw [e]
  exact ⟨this.1, this.2.1⟩
theorem GrS.hs {i : Nat} {G : List Nat} (h : GrS σ i G) (hi : i < 3) (g : HsF σ τ) : GrS τ i G := ⟨by rw [g.2.2.1 2125 (by decide)]; exact h.1, fun j y hy => by rw [g.2.2.1 _ (by omega)]; exact h.2 j y hy⟩
theorem rf_lists (H : WkS W σ) (hc : c < W.2.1.length) (h : ∀ τ, LtF σ τ → τ.i 1931 = σ.i 1931 → K (.inl (some (.int (Int32.ofNat (lsN W c))))) τ) : B_X23_lists_0 Z (d + 3) σ (Int32.ofNat c) K := by
  have hk24 := H.2.1.1.2.1
  have hc24 := H.2.1.2.1.2.1
  obtain ⟨-, -, w3⟩ := wyW_ok H.2.1 hc
  obtain ⟨hp1, hp3⟩ := pl_le H.2.1 hc
  have ibc : ib (Int32.ofNat c) 24 := ib_oN (by omega) (by decide)
  refine S_X23_lists_0 H.1 (rf_group (d := d) H hc (fun τ1 g1 _ _ o1 G1 => ?_))
  have H1 := H.lt g1
  refine rf_nothingIs (d := d + 1) H1.1 (fun τ3 g3 S3 => ⟨ibc, ?_⟩)
  have gT := g1.tr g3.lt
  have o3 : τ3.i 1931 = σ.i 1931 := (g3.2.2.1 1931 (by decide)).trans o1
  have H3 := H.lt gT
  obtain ⟨-, -, w3'⟩ := wyW_ok H3.2.1 hc
  rw [oN_t (by omega), w3']
  have hrep := rep_n H hc hp3
  have hlen := tuL_len (plW W.2.1 c) (grW W c 0) (grW W c 1) (grW W c 2) (grW_len W c 0 hk24.2) (grW_len W c 1 hk24.2) (grW_len W c 2 hk24.2)
  have hgk : ∀ i x, x ∈ grW W c i → x < W.1.length := fun i x hx => mk_lt (gr_sub hx)
  have hgl : ∀ i, (grW W c i).length ≤ 24 := fun i => grW_len W c i hk24.2
  have G3 : ∀ i, i < plW W.2.1 c → GrS τ3 i (grW W c i) := fun i hi => (G1 i hi).hs (by omega) g3
  generalize hp : plW W.2.1 c = pl at *
  -- the whole sequence of pairs
  have eAll : (tuL pl (grW W c 0) (grW W c 1) (grW W c 2)).map (prT σ c pl) = (grW W c 0).flatMap fun x => (if 1 < pl then grW W c 1 else [0]).flatMap fun y => (if 2 < pl then grW W c 2 else [0]).map fun z => prT σ c pl (x, y, z) := by
    unfold tuL
    rw [List.map_flatMap]
    congr 1
    funext x
    rw [List.map_flatMap]
    congr 1
    funext y
    rw [List.map_map]
    rfl
  generalize hY : (if 1 < pl then grW W c 1 else [0]) = Y at *
  generalize hZ : (if 2 < pl then grW W c 2 else [0]) = Zs at *
  have hAl : ((grW W c 0).flatMap fun x => Y.flatMap fun y => Zs.map fun z => prT σ c pl (x, y, z)).length ≤ 13824 := by
    rw [← eAll, List.length_map]
    exact hlen
  have hYl : Y.length ≤ 24 := by
    rw [← hY]
    split
    · exact hgl 1
    · decide
  have hZl : Zs.length ≤ 24 := by
    rw [← hZ]
    split
    · exact hgl 2
    · decide
  -- a part of the whole is not longer
  have bound : ∀ (a b e : Nat) (x y : Nat), (grW W c 0)[a]? = some x → Y[b]? = some y → e ≤ Zs.length → (((grW W c 0).take a).flatMap (fun x => Y.flatMap fun y => Zs.map fun z => prT σ c pl (x, y, z)) ++ (Y.take b).flatMap (fun y => Zs.map fun z => prT σ c pl (x, y, z)) ++ (Zs.take e).map (fun z => prT σ c pl (x, y, z))).length ≤ 13824 := by
    intro a b e x y hx hy he
    have h1 : ((Zs.take e).map (fun z => prT σ c pl (x, y, z))).length ≤ (Zs.map (fun z => prT σ c pl (x, y, z))).length := by
      rw [List.length_map, List.length_map, List.length_take]
      omega
    have h2 : ((Y.take (b + 1)).flatMap (fun y => Zs.map fun z => prT σ c pl (x, y, z))).length ≤ (Y.flatMap (fun y => Zs.map fun z => prT σ c pl (x, y, z))).length := by
      have : Y.flatMap (fun y => Zs.map fun z => prT σ c pl (x, y, z)) = (Y.take (b + 1)).flatMap (fun y => Zs.map fun z => prT σ c pl (x, y, z)) ++ (Y.drop (b + 1)).flatMap (fun y => Zs.map fun z => prT σ c pl (x, y, z)) := by
        rw [← List.flatMap_append, List.take_append_drop]
      rw [this, List.length_append]
      omega
    have h3 : (((grW W c 0).take (a + 1)).flatMap (fun x => Y.flatMap fun y => Zs.map fun z => prT σ c pl (x, y, z))).length ≤ ((grW W c 0).flatMap (fun x => Y.flatMap fun y => Zs.map fun z => prT σ c pl (x, y, z))).length := by
      have : (grW W c 0).flatMap (fun x => Y.flatMap fun y => Zs.map fun z => prT σ c pl (x, y, z)) = ((grW W c 0).take (a + 1)).flatMap (fun x => Y.flatMap fun y => Zs.map fun z => prT σ c pl (x, y, z)) ++ ((grW W c 0).drop (a + 1)).flatMap (fun x => Y.flatMap fun y => Zs.map fun z => prT σ c pl (x, y, z)) := by
        rw [← List.flatMap_append, List.take_append_drop]
      rw [this, List.length_append]
      omega
    rw [take_fm Y _ hy, List.length_append] at h2
    rw [take_fm (grW W c 0) _ hx, List.length_append] at h3
    rw [List.length_append, List.length_append]
    omega
  have sta : ∀ {υ : Sg}, HsF τ3 υ → LtF σ υ ∧ WkS W υ ∧ υ.i 1931 = σ.i 1931 ∧ ∀ i, i < pl → GrS υ i (grW W c i) := fun {υ} g => ⟨gT.tr g.lt, H.lt (gT.tr g.lt), (g.2.2.1 1931 (by decide)).trans o3, fun i hi => (G3 i hi).hs (by omega) g⟩
  -- the third place
  have lz : ∀ (a b x y : Nat), (grW W c 0)[a]? = some x → Y[b]? = some y → (∀ υ n, HsF τ3 υ → MtS υ n (((grW W c 0).take a).flatMap (fun x => Y.flatMap fun y => Zs.map fun z => prT σ c pl (x, y, z)) ++ (Y.take (b + 1)).flatMap (fun y => Zs.map fun z => prT σ c pl (x, y, z))) → B_X23_lists_58 Z (d + 3) υ (Int32.ofNat c) (Int32.ofNat n) (Int32.ofNat pl) (Int32.ofNat a) (55 + 1 + 76 * c + 1 + 25 * 0 + 1 + x) (Int32.ofNat (b + 1)) K) →
      ∀ (p q : Int64), (p, q) = (if 1 < pl then fun p => anP p (fpr σ c 1 y) else id) (fpr σ c 0 x) → ∀ r e υ n, Zs.length - e = r → e ≤ Zs.length → HsF τ3 υ → MtS υ n (((grW W c 0).take a).flatMap (fun x => Y.flatMap fun y => Zs.map fun z => prT σ c pl (x, y, z)) ++ (Y.take b).flatMap (fun y => Zs.map fun z => prT σ c pl (x, y, z)) ++ (Zs.take e).map (fun z => prT σ c pl (x, y, z))) → B_X23_lists_148 Z (d + 3) υ (Int32.ofNat c) (Int32.ofNat n) (Int32.ofNat pl) (Int32.ofNat a) (55 + 1 + 76 * c + 1 + 25 * 0 + 1 + x) (Int32.ofNat b) p q (Int32.ofNat e) K := by
    intro a b x y hx hy hnx p q hpq r
    have ha := (List.getElem?_eq_some_iff.mp hx).1
    have hb := (List.getElem?_eq_some_iff.mp hy).1
    have hxl := hgk 0 x (List.mem_of_getElem? hx)
    have p5 : sh0R[55 + 1 + 76 * c + 1 + 25 * 0 + 1 + x]? = some (Sh.arr 1 2) := kE_fit2 (c := c) (n := 0) (k := x) (by omega) (by decide) (by omega)
    have hg0 := hgl 0
    induction r with
    | zero =>
      intro e υ n hr he g M
      have ee : e = Zs.length := by omega
      subst ee
      obtain ⟨gl, Hυ, -, -⟩ := sta g
      rw [List.take_length, List.append_assoc, ← take_fm Y (fun y => Zs.map fun z => prT σ c pl (x, y, z)) hy] at M
      have nx := hnx υ n g M
      have p165 : ∀ s1 : Int32, s1 = Int32.ofNat Zs.length → B_X23_lists_165 Z (d + 3) υ (Int32.ofNat c) (Int32.ofNat n) (Int32.ofNat pl) (Int32.ofNat a) (55 + 1 + 76 * c + 1 + 25 * 0 + 1 + x) (Int32.ofNat b) p q (Int32.ofNat Zs.length) (Int32.ofNat Zs.length) s1 K := by
        rintro s1 rfl
        refine S_X23_lists_165 Hυ.1 p5 ⟨fun _ => ?_, fun z => absurd (Int32.le_refl _) z⟩
        rw [oN_1]
        exact nx
      refine S_X23_lists_148 Hυ.1 p5 ⟨fun z => p165 _ ?_, fun z => p165 _ ?_⟩
      · rw [show (2 : Int32) = Int32.ofNat 2 from rfl, oN_le (by omega) (by omega)] at z
        rw [← hZ, if_neg (by omega)]
        rfl
      · rw [show (2 : Int32) = Int32.ofNat 2 from rfl, oN_le (by omega) (by omega)] at z
        obtain ⟨-, -, -, Gυ⟩ := sta g
        rw [← hZ, if_pos (by omega)]
        exact (Gυ 2 (by omega)).1
    | succ r ih =>
      intro e υ n hr he g M
      have hel : e < Zs.length := by omega
      have ez : Zs[e]? = some Zs[e] := List.getElem?_eq_getElem hel
      obtain ⟨gl, Hυ, -, Gυ⟩ := sta g
      have hbd := bound a b e x y hx hy (by omega)
      have eT : (Zs.take (e + 1)).map (fun z => prT σ c pl (x, y, z)) = (Zs.take e).map (fun z => prT σ c pl (x, y, z)) ++ [prT σ c pl (x, y, Zs[e])] := by
        rw [List.take_add_one, ez]
        show List.map _ (Zs.take e ++ [Zs[e]]) = _
        rw [List.map_append]
        rfl
      -- the next pair
      have nx : ∀ a' b', (a', b') = prT σ c pl (x, y, Zs[e]) → B_X23_isNew_0 Z (d + 2) υ a' b' (yI K fun v12 τ10 => (v12 = 0 → B_X23_lists_148 Z (d + 3) τ10 (Int32.ofNat c) (Int32.ofNat n) (Int32.ofNat pl) (Int32.ofNat a) (55 + 1 + 76 * c + 1 + 25 * 0 + 1 + x) (Int32.ofNat b) p q (Int32.ofNat e + 1) K) ∧ (¬ v12 = 0 → B_X23_lists_148 Z (d + 3) τ10 (Int32.ofNat c) (Int32.ofNat n + 1) (Int32.ofNat pl) (Int32.ofNat a) (55 + 1 + 76 * c + 1 + 25 * 0 + 1 + x) (Int32.ofNat b) p q (Int32.ofNat e + 1) K)) := by
        intro a' b' hab
        refine rf_more (d := d + 1) Hυ.1 M (by omega) (fun v ψ n' gψ Mψ hv => ?_)
        rw [hab, List.append_assoc, ← eT] at Mψ
        have := ih (e + 1) ψ n' (by omega) (by omega) (g.tr gψ) Mψ
        rcases hv with ⟨rfl, rfl⟩ | ⟨rfl, rfl⟩
        · refine ⟨fun _ => ?_, fun z => absurd rfl z⟩
          rw [oN_1]
          exact this
        · refine ⟨fun z => absurd z (by decide), fun _ => ?_⟩
          rw [oN_1 e, oN_1 n]
          exact this
      have p165 : ∀ s1 : Int32, s1 = Int32.ofNat Zs.length → B_X23_lists_165 Z (d + 3) υ (Int32.ofNat c) (Int32.ofNat n) (Int32.ofNat pl) (Int32.ofNat a) (55 + 1 + 76 * c + 1 + 25 * 0 + 1 + x) (Int32.ofNat b) p q (Int32.ofNat e) (Int32.ofNat e) s1 K := by
        rintro s1 rfl
        refine S_X23_lists_165 Hυ.1 p5 ⟨fun z => ?_, fun _ => ⟨fun z => ?_, fun z => ⟨ibc, ib_oN (by omega) (by decide), ?_, ibc, ib_oN (by omega) (by decide), ?_, ?_⟩⟩⟩
        · exfalso
          rw [oN_le (by omega) (by omega)] at z
          omega
        · rw [show (2 : Int32) = Int32.ofNat 2 from rfl, oN_le (by omega) (by omega)] at z
          refine nx p q ?_
          unfold prT
          rw [if_neg (by omega)]
          exact hpq
        all_goals
          rw [show (2 : Int32) = Int32.ofNat 2 from rfl, oN_le (by omega) (by omega)] at z
          have hZ2 : Zs = grW W c 2 := by rw [← hZ, if_pos (by omega)]
          have hzl : Zs[e] < W.1.length := hgk 2 _ (by rw [← hZ2]; exact List.getElem_mem hel)
          have eg := (Gυ 2 (by omega)).2 e Zs[e] (by rw [← hZ2]; exact ez)
        · rw [oN_t (by omega), eg]
          exact ib_oN (by omega) (by decide)
        · rw [oN_t (by omega), eg]
          exact ib_oN (by omega) (by decide)
        · rw [oN_t (by omega), oN_t (by omega), eg, oN_t (by omega)]
          refine nx _ _ ?_
          have ef := gl.fpr (c := c) (i := 2) (k := Zs[e]) (by omega) (by decide) (by omega)
          unfold prT
          rw [if_pos (by omega)]
          dsimp only
          rw [← hpq, ← ef]
          rfl
      refine S_X23_lists_148 Hυ.1 p5 ⟨fun z => p165 _ ?_, fun z => p165 _ ?_⟩
      · rw [show (2 : Int32) = Int32.ofNat 2 from rfl, oN_le (by omega) (by omega)] at z
        rw [← hZ, if_neg (by omega)]
        rfl
      · rw [show (2 : Int32) = Int32.ofNat 2 from rfl, oN_le (by omega) (by omega)] at z
        rw [← hZ, if_pos (by omega)]
        exact (Gυ 2 (by omega)).1
  -- the second place
  have ly : ∀ (a x : Nat), (grW W c 0)[a]? = some x → (∀ υ n, HsF τ3 υ → MtS υ n (((grW W c 0).take (a + 1)).flatMap (fun x => Y.flatMap fun y => Zs.map fun z => prT σ c pl (x, y, z))) → B_X23_lists_24 Z (d + 3) υ (Int32.ofNat c) (Int32.ofNat n) (Int32.ofNat pl) (Int32.ofNat (a + 1)) K) → ∀ r b υ n, Y.length - b = r → b ≤ Y.length → HsF τ3 υ → MtS υ n (((grW W c 0).take a).flatMap (fun x => Y.flatMap fun y => Zs.map fun z => prT σ c pl (x, y, z)) ++ (Y.take b).flatMap (fun y => Zs.map fun z => prT σ c pl (x, y, z))) → B_X23_lists_58 Z (d + 3) υ (Int32.ofNat c) (Int32.ofNat n) (Int32.ofNat pl) (Int32.ofNat a) (55 + 1 + 76 * c + 1 + 25 * 0 + 1 + x) (Int32.ofNat b) K := by
    intro a x hx hnx r
    have ha := (List.getElem?_eq_some_iff.mp hx).1
    have hxl := hgk 0 x (List.mem_of_getElem? hx)
    have p5 : sh0R[55 + 1 + 76 * c + 1 + 25 * 0 + 1 + x]? = some (Sh.arr 1 2) := kE_fit2 (c := c) (n := 0) (k := x) (by omega) (by decide) (by omega)
    have hg0 := hgl 0
    induction r with
    | zero =>
      intro b υ n hr hb g M
      have eb : b = Y.length := by omega
      subst eb
      obtain ⟨gl, Hυ, -, Gυ⟩ := sta g
      rw [List.take_length, ← take_fm (grW W c 0) (fun x => Y.flatMap fun y => Zs.map fun z => prT σ c pl (x, y, z)) hx] at M
      have nx := hnx υ n g M
      have p75 : ∀ s1 : Int32, s1 = Int32.ofNat Y.length → B_X23_lists_75 Z (d + 3) υ (Int32.ofNat c) (Int32.ofNat n) (Int32.ofNat pl) (Int32.ofNat a) (55 + 1 + 76 * c + 1 + 25 * 0 + 1 + x) (Int32.ofNat Y.length) (Int32.ofNat Y.length) s1 K := by
        rintro s1 rfl
        refine S_X23_lists_75 Hυ.1 p5 ⟨fun _ => ?_, fun z => absurd (Int32.le_refl _) z⟩
        rw [oN_1]
        exact nx
      refine S_X23_lists_58 Hυ.1 p5 ⟨fun z => p75 _ ?_, fun z => p75 _ ?_⟩
      · rw [show (1 : Int32) = Int32.ofNat 1 from rfl, oN_le (by omega) (by omega)] at z
        rw [← hY, if_neg (by omega)]
        rfl
      · rw [show (1 : Int32) = Int32.ofNat 1 from rfl, oN_le (by omega) (by omega)] at z
        rw [← hY, if_pos (by omega)]
        exact (Gυ 1 (by omega)).1
    | succ r ih =>
      intro b υ n hr hb g M
      have hbl : b < Y.length := by omega
      have ey : Y[b]? = some Y[b] := List.getElem?_eq_getElem hbl
      obtain ⟨gl, Hυ, -, Gυ⟩ := sta g
      have M0 : MtS υ n (((grW W c 0).take a).flatMap (fun x => Y.flatMap fun y => Zs.map fun z => prT σ c pl (x, y, z)) ++ (Y.take b).flatMap (fun y => Zs.map fun z => prT σ c pl (x, y, z)) ++ (Zs.take 0).map (fun z => prT σ c pl (x, Y[b], z))) := by
        rw [List.take_zero, List.map_nil, List.append_nil]
        exact M
      have e0 := gl.fpr (c := c) (i := 0) (k := x) (by omega) (by decide) (by omega)
      have p75 : ∀ s1 : Int32, s1 = Int32.ofNat Y.length → B_X23_lists_75 Z (d + 3) υ (Int32.ofNat c) (Int32.ofNat n) (Int32.ofNat pl) (Int32.ofNat a) (55 + 1 + 76 * c + 1 + 25 * 0 + 1 + x) (Int32.ofNat b) (Int32.ofNat b) s1 K := by
        rintro s1 rfl
        refine S_X23_lists_75 Hυ.1 p5 ⟨fun z => ?_, fun _ => ⟨fun z => ?_, fun z => ⟨ibc, ib_oN (by omega) (by decide), ?_, ibc, ib_oN (by omega) (by decide), ?_, ?_⟩⟩⟩
        · exfalso
          rw [oN_le (by omega) (by omega)] at z
          omega
        · rw [show (1 : Int32) = Int32.ofNat 1 from rfl, oN_le (by omega) (by omega)] at z
          refine lz a b x Y[b] hx ey (fun ψ n' gψ Mψ => ih (b + 1) ψ n' (by omega) (by omega) gψ Mψ) _ _ ?_ Zs.length 0 υ n (by omega) (Nat.zero_le _) g M0
          rw [if_neg (by omega), ← e0]
          rfl
        all_goals
          rw [show (1 : Int32) = Int32.ofNat 1 from rfl, oN_le (by omega) (by omega)] at z
          have hY2 : Y = grW W c 1 := by rw [← hY, if_pos (by omega)]
          have hyl : Y[b] < W.1.length := hgk 1 _ (by rw [← hY2]; exact List.getElem_mem hbl)
          have eg := (Gυ 1 (by omega)).2 b Y[b] (by rw [← hY2]; exact ey)
        · rw [oN_t (by omega), eg]
          exact ib_oN (by omega) (by decide)
        · rw [oN_t (by omega), eg]
          exact ib_oN (by omega) (by decide)
        · rw [oN_t (by omega), oN_t (by omega), eg, oN_t (by omega)]
          refine lz a b x Y[b] hx ey (fun ψ n' gψ Mψ => ih (b + 1) ψ n' (by omega) (by omega) gψ Mψ) _ _ ?_ Zs.length 0 υ n (by omega) (Nat.zero_le _) g M0
          have e1 := gl.fpr (c := c) (i := 1) (k := Y[b]) (by omega) (by decide) (by omega)
          rw [if_pos (by omega), ← e0, ← e1]
          rfl
      refine S_X23_lists_58 Hυ.1 p5 ⟨fun z => p75 _ ?_, fun z => p75 _ ?_⟩
      · rw [show (1 : Int32) = Int32.ofNat 1 from rfl, oN_le (by omega) (by omega)] at z
        rw [← hY, if_neg (by omega)]
        rfl
      · rw [show (1 : Int32) = Int32.ofNat 1 from rfl, oN_le (by omega) (by omega)] at z
        rw [← hY, if_pos (by omega)]
        exact (Gυ 1 (by omega)).1
  -- the first place
  have lx : ∀ r a υ n, (grW W c 0).length - a = r → a ≤ (grW W c 0).length → HsF τ3 υ → MtS υ n (((grW W c 0).take a).flatMap (fun x => Y.flatMap fun y => Zs.map fun z => prT σ c pl (x, y, z))) → B_X23_lists_24 Z (d + 3) υ (Int32.ofNat c) (Int32.ofNat n) (Int32.ofNat pl) (Int32.ofNat a) K := by
    intro r
    have hg0 := hgl 0
    induction r with
    | zero =>
      intro a υ n hr ha g M
      have ea : a = (grW W c 0).length := by omega
      subst ea
      obtain ⟨gl, Hυ, oυ, Gυ⟩ := sta g
      rw [List.take_length, ← eAll] at M
      refine S_X23_lists_24 Hυ.1 ⟨fun _ => ?_, fun z => absurd (by rw [(Gυ 0 (by omega)).1]; exact Int32.le_refl _) z⟩
      rw [M.n, hrep]
      exact h υ gl oυ
    | succ r ih =>
      intro a υ n hr ha g M
      have hal : a < (grW W c 0).length := by omega
      have ex : (grW W c 0)[a]? = some (grW W c 0)[a] := List.getElem?_eq_getElem hal
      obtain ⟨gl, Hυ, oυ, Gυ⟩ := sta g
      have hxl := hgk 0 _ (List.getElem_mem hal)
      refine S_X23_lists_24 Hυ.1 ⟨fun z => ?_, fun _ => ⟨ibc, ib_oN (by omega) (by decide), ?_, ?_⟩⟩
      · exfalso
        rw [(Gυ 0 (by omega)).1, oN_le (by omega) (by omega)] at z
        omega
      · rw [oN_t (by omega), (Gυ 0 (by omega)).2 a _ ex]
        exact ib_oN (by omega) (by decide)
      · rw [oN_t (by omega), oN_t (by omega), (Gυ 0 (by omega)).2 a _ ex, oN_t (by omega)]
        refine ly a _ ex (fun ψ n' gψ Mψ => ih (a + 1) ψ n' (by omega) (by omega) gψ Mψ) Y.length 0 υ n (by omega) (Nat.zero_le _) g ?_
        rw [List.take_zero, List.flatMap_nil, List.append_nil]
        exact M
  exact lx (grW W c 0).length 0 τ3 0 (by omega) (Nat.zero_le _) (HsF.refl τ3) ⟨[], S3, List.nodup_nil, rfl, fun p => Iff.rfl⟩
/-- how many cells -/
noncomputable def clN (W : Wld) (c : Nat) (pr : Bool) : Nat → Nat
  | 0 => 1
  | i + 1 => clN W c pr i * if pr = true then dsN ((mkW W.1).map fun k => seL (fun m => otS W c i m && fS W c i k m)) else (mkW W.1).length
theorem rf_cells {pr : Bool} (H : WkS W σ) (hc : c < W.2.1.length) (h : ∀ τ, LtF σ τ → τ.i 1931 = σ.i 1931 → τ.l = σ.l → K (.inl (some (.int (Int32.ofNat (clN W c pr (plW W.2.1 c)))))) τ) : B_X23_cells_0 Z (d + 3) σ (Int32.ofNat c) (if pr = true then 1 else 0) K := by
  have hc24 := H.2.1.2.1.2.1
  obtain ⟨hp1, hp3⟩ := pl_le H.2.1 hc
  have ibc : ib (Int32.ofNat c) 24 := ib_oN (by omega) (by decide)
  have loop : ∀ τ, LtF σ τ → τ.i 1931 = σ.i 1931 → τ.l = σ.l → (pr = true → ∀ i, i < plW W.2.1 c → GrS τ i (grW W c i)) → ∀ r i, plW W.2.1 c - i = r → i ≤ plW W.2.1 c → B_X23_cells_14 Z (d + 3) τ (Int32.ofNat c) (if pr = true then 1 else 0) (Int32.ofNat (clN W c pr i)) (Int32.ofNat i) K := by
    intro τ g o1 l1 G r
    have Hτ := H.lt g
    obtain ⟨-, -, w3⟩ := wyW_ok Hτ.2.1 hc
    induction r with
    | zero =>
      intro i hr hi
      have e : i = plW W.2.1 c := by omega
      subst e
      exact S_X23_cells_14 Hτ.1 ⟨ibc, fun _ => h τ g o1 l1, fun z => absurd (by rw [oN_t (by omega), w3]; exact Int32.le_refl _) z⟩
    | succ r ih =>
      intro i hr hi
      have nx := ih (i + 1) (by omega) (by omega)
      refine S_X23_cells_14 Hτ.1 ⟨ibc, fun z => ?_, fun _ => ⟨fun z => ?_, fun z => ⟨ib_oN (by omega) (by decide), ?_⟩⟩⟩
      · exfalso
        rw [oN_t (by omega), w3, oN_le (by omega) (by omega)] at z
        omega
      · have hf : pr = false := by
          cases q : pr with
          | false => rfl
          | true =>
            rw [q] at z
            exact absurd z (by decide)
        rw [Hτ.2.2.1.2.1.1, oN_mul, oN_1]
        rw [clN, hf, if_neg (by decide)] at nx
        rw [hf]
        exact nx
      · have hf : pr = true := by
          cases q : pr with
          | true => rfl
          | false =>
            rw [q] at z
            exact absurd rfl z
        rw [oN_t (by omega), (G hf i (by omega)).1, oN_mul, oN_1, grW_n]
        rw [clN, hf, if_pos rfl] at nx
        rw [hf]
        exact nx
  refine S_X23_cells_0 H.1 ⟨fun z => ?_, fun z => ?_⟩
  · have hf : pr = false := by
      cases q : pr with
      | false => rfl
      | true =>
        rw [q] at z
        exact absurd z (by decide)
    exact loop σ (LtF.refl σ) rfl rfl (fun q => by rw [hf] at q; cases q) _ 0 rfl (Nat.zero_le _)
  · refine rf_group (d := d) H hc (fun τ1 g1 _ l1 o1 G1 => ?_)
    exact loop τ1 g1 o1 l1 (fun _ => G1) _ 0 rfl (Nat.zero_le _)
end LISTS2

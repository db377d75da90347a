theorem oN_div {a b : Nat} (ha : a < 2147483648) (hb : b < 2147483648) : Int32.ofNat a / Int32.ofNat b = Int32.ofNat (a / b) := by
  have hd : a / b ≤ a := Nat.div_le_self a b
  apply Int32.toInt_inj.mp
  rw [Int32.toInt_div, oN_i ha, oN_i hb, oN_i (by omega), ← Int.ofNat_tdiv, Int.bmod_def, show ((2 ^ 32 : Nat) : Int) = 4294967296 from rfl]
  generalize a / b = x at *
  omega
theorem oN_irm {a b : Nat} (ha : a < 2147483648) (hb : b < 2147483648) : irm (Int32.ofNat a) (Int32.ofNat b) = Int32.ofNat (a % b) := by
  unfold irm
  have h1 := Nat.div_add_mod a b
  have h2 : a / b * b ≤ a := Nat.div_mul_le_self a b
  rw [oN_div ha hb, oN_mul, oN_sub h2]
  congr 1
  rw [Nat.mul_comm] at h1
  omega
/-! PURE: whole, row by row -/
def e1P (W : Wld) (c : Nat) (k : Nat → Nat) : Prop := ∃ v, InR v ∧ (stW W c k W.2.2.2.length).filter (tkW W (plW W.2.1 c) k v) = []
def e2P (W : Wld) (wy c : Nat) (k : Nat → Nat) : Prop := ∃ v, InR v ∧ foI (frI (fun x y => nrI W wy x y k) ((stW W c k W.2.2.2.length).filter (tkW W (plW W.2.1 c) k v))) < 0
/-- what is wrong with a row: 1 none applies, 2 several do -/
noncomputable def bdN (W : Wld) (wy c : Nat) (k : Nat → Nat) : Nat := if pD (e1P W c k) = true then 1 else if jnW W.2.1 c = 0 ∧ pD (e2P W wy c k) = true then 2 else 0
theorem mk_same {W : Wld} {pl : Nat} {k : Nat → Nat} {D : List Nat} {v v' : Nat → Int} (h : mkV pl (blW W.1) k (D.map (asM W.2.2.2)) v D.length = mkV pl (blW W.1) k (D.map (asM W.2.2.2)) v' D.length) : ∀ x ∈ D, tkW W pl k v x = tkW W pl k v' x := by
  intro x hx
  obtain ⟨j, hj⟩ := List.getElem?_of_mem hx
  have hl := (List.getElem?_eq_some_iff.mp hj).1
  have e1 := mkV_bit (pl := pl) (bl := blW W.1) (k := k) (as := D.map (asM W.2.2.2)) (v := v) D.length j hl
  have e2 := mkV_bit (pl := pl) (bl := blW W.1) (k := k) (as := D.map (asM W.2.2.2)) (v := v') D.length j hl
  rw [h, e2, List.getElem?_map, hj] at e1
  have e1 : (if tkW W pl k v' x = true then 1 else 0) = (if tkW W pl k v x = true then 1 else 0) := e1
  cases q1 : tkW W pl k v x <;> cases q2 : tkW W pl k v' x <;> rw [q1, q2] at e1 <;> first | rfl | cases e1
section BAD
variable {Z : zT} {W : Wld} {lst : List Nat} {b wy : Nat} {σ τ : Sg} {K : kS} {c : Nat} {k : Nat → Nat}
/-- what judging a row may write -/
def bdE (a k : Nat) : Prop := (a = 0 ∧ (k = 74 ∨ k = 75 ∨ k = 106)) ∨ a = 2131 ∨ a = 2187 ∨ a = 2188 ∨ a = 2190
theorem jnW_ok (H : W3 W.1 W.2.1 W.2.2.1 σ) (hc : c < W.2.1.length) : jnW W.2.1 c ≤ 4 ∧ σ.i (2409 + 3 * c) 2 = Int32.ofNat (jnW W.2.1 c) := by
  have e : W.2.1[c]? = some W.2.1[c] := List.getElem?_eq_getElem hc
  obtain ⟨-, -, g, -⟩ := H.2.1.2.2 c _ e
  unfold jnW
  rw [e]
  exact g
theorem MkS.ge {E : Nat → Nat → Prop} (h : MkS W c σ) (g : GF E σ τ) (h1 : ¬ E 0 106) (h2 : ∀ a j, a = 2187 ∨ a = 2188 ∨ a = 2190 → ¬ E a j) : MkS W c τ := by
  have r106 : τ.i 0 106 = σ.i 0 106 := g.2.2.1 0 106 h1 (by decide) (by decide) (by decide)
  have row : ∀ a, a = 2187 ∨ a = 2188 ∨ a = 2190 → τ.i a = σ.i a := fun a q => g.row (fun j => h2 a j q) (by omega) (by omega) (by omega)
  rcases h with z | ⟨D, k0, d1, d2, d3, d4, d5, d6, d7⟩
  · exact Or.inl (r106.trans z)
  · refine Or.inr ⟨D, k0, r106.trans d1, d2, d3, fun j x hx => ?_, fun i hi => ?_, d6, fun q hq => ?_⟩
    · rw [row 2187 (by omega)]
      exact d4 j x hx
    · rw [row 2188 (by omega)]
      exact d5 i hi
    · rw [row 2190 (by omega)]
      exact d7 q hq
/-- bad() -/
theorem rf_bad {d : Nat} (hW : WfW W) (hd : 260 ≤ d) (H : NwS W lst b wy σ) (M : MmR W wy σ) (hc : c < W.2.1.length) (hk : KnS 2185 k W.1.length (plW W.2.1 c) σ) (C : CoS W (stW W c k W.2.2.2.length) σ) (h8 : meS W ((stW W c k W.2.2.2.length).filter (akB W)) ≤ 8) (hM : MkS W c σ)
    (h : ∀ τ, FX ΦR τ.sh τ.r → GF bdE σ τ → MmR W wy τ → MkS W c τ → K (.inl (some (.int (Int32.ofNat (bdN W wy c k))))) τ) : B_X23_bad_0 Z d σ (2409 + 3 * c) K := by
  obtain ⟨d, rfl⟩ : ∃ e, d = e + 1 := ⟨d - 1, by omega⟩
  have hc24 := H.2.1.2.1.2.1
  have h120 := H.2.2.1.2
  obtain ⟨j1, j2⟩ := jnW_ok H.2.1 hc
  have pc : sh0R[2409 + 3 * c]? = some (Sh.obj 14) := kE_2 (by omega)
  have hL := stW_mem (W := W) (c := c) (k := k) (n := W.2.2.2.length)
  have hlen := stW_len W c k W.2.2.2.length
  have hcl := List.length_filter_le (akB W) (stW W c k W.2.2.2.length)
  unfold bdN e1P e2P at h
  generalize hLL : stW W c k W.2.2.2.length = L at *
  have hN8 : (L.filter (akB W)).length ≤ 8 := by
    refine Nat.le_trans (me_ge (W := W) (fun x hx => ?_)) h8
    obtain ⟨h1, h2⟩ := hL x (List.mem_filter.mp hx).1
    exact (H.me hW h1.1 h1.2).2.2.1 (List.mem_filter.mp hx).2
  have hp8 := pw_8 hN8
  have tkL : ∀ x ∈ L, akB W x = false → ∀ v, tkW W (plW W.2.1 c) k v x = true := fun x hx ha v => tk_free (by rw [(hL x hx).2]) ha
  have fsame : ∀ v v', mkV (plW W.2.1 c) (blW W.1) k ((L.filter (akB W)).map (asM W.2.2.2)) v (L.filter (akB W)).length = mkV (plW W.2.1 c) (blW W.1) k ((L.filter (akB W)).map (asM W.2.2.2)) v' (L.filter (akB W)).length → L.filter (tkW W (plW W.2.1 c) k v) = L.filter (tkW W (plW W.2.1 c) k v') := fun v v' e => by
    refine List.filter_congr fun x hx => ?_
    cases q : akB W x with
    | true => exact mk_same e x (List.mem_filter.mpr ⟨hx, q⟩)
    | false => rw [tkL x hx q v, tkL x hx q v']
  -- a method that asks nothing
  have sure1 : (L.filter (akB W)).length < L.length → ¬ ∃ v, InR v ∧ L.filter (tkW W (plW W.2.1 c) k v) = [] := by
    rintro hs ⟨v, -, e⟩
    obtain ⟨x, hx, ha⟩ : ∃ x ∈ L, akB W x = false := by
      refine Classical.byContradiction fun hno => ?_
      have : L.filter (akB W) = L := List.filter_eq_self.mpr fun x hx => by
        cases q : akB W x with
        | true => rfl
        | false => exact absurd ⟨x, hx, q⟩ hno
      rw [this] at hs
      omega
    have : x ∈ L.filter (tkW W (plW W.2.1 c) k v) := List.mem_filter.mpr ⟨hx, tkL x hx ha v⟩
    rw [e] at this
    cases this
  have sure0 : ¬ (L.filter (akB W)).length < L.length → L.filter (akB W) = L := fun hs => by
    refine List.filter_eq_self.mpr fun x hx => ?_
    have hle : ∀ (M : List Nat), (M.filter (akB W)).length = M.length → ∀ x ∈ M, akB W x = true := fun M hM => List.length_filter_eq_length_iff.mp hM
    exact hle L (by omega) x hx
  have e0 : ¬ (L.filter (akB W)).length < L.length → (saP W (plW W.2.1 c) k (L.filter (akB W)) 0 ↔ ∃ v, InR v ∧ L.filter (tkW W (plW W.2.1 c) k v) = []) := fun hs => by
    unfold saP
    refine exists_congr fun v => and_congr Iff.rfl ?_
    have key : mkV (plW W.2.1 c) (blW W.1) k ((L.filter (akB W)).map (asM W.2.2.2)) v (L.filter (akB W)).length = 0 ↔ ∀ x ∈ L.filter (akB W), tkW W (plW W.2.1 c) k v x = false := by
      constructor
      · intro z x hx
        obtain ⟨j, hj⟩ := List.getElem?_of_mem hx
        have hl := (List.getElem?_eq_some_iff.mp hj).1
        have e1 := mkV_bit (pl := plW W.2.1 c) (bl := blW W.1) (k := k) (as := (L.filter (akB W)).map (asM W.2.2.2)) (v := v) (L.filter (akB W)).length j hl
        rw [z, Nat.zero_div, List.getElem?_map, hj] at e1
        have e1 : 0 % 2 = (if tkW W (plW W.2.1 c) k v x = true then 1 else 0) := e1
        cases q : tkW W (plW W.2.1 c) k v x with
        | false => rfl
        | true =>
          rw [q] at e1
          cases e1
      · intro z
        have : ∀ n, n ≤ (L.filter (akB W)).length → mkV (plW W.2.1 c) (blW W.1) k ((L.filter (akB W)).map (asM W.2.2.2)) v n = 0 := by
          intro n
          induction n with
          | zero => intro _; rfl
          | succ n ih =>
            intro hn
            have hx : (L.filter (akB W))[n]? = some (L.filter (akB W))[n] := List.getElem?_eq_getElem (by omega)
            rw [mkV, ih (by omega), List.getElem?_map, hx]
            show 0 + (if tkW W (plW W.2.1 c) k v (L.filter (akB W))[n] = true then 2 ^ n else 0) = 0
            rw [z _ (List.getElem_mem _)]
            rfl
        exact this _ (Nat.le_refl _)
    rw [key, List.filter_eq_nil_iff, sure0 hs]
    exact forall_congr' fun x => forall_congr' fun hx => ⟨fun q => by rw [q]; decide, fun q => Bool.eq_false_iff.mpr q⟩
  have lkb : ∀ a j, lkE a j → bdE a j := fun a j q => by
    unfold lkE at q
    unfold bdE
    omega
  have bdn : ∀ a j, bdE a j → nwE a j := fun a j q => by
    unfold bdE at q
    unfold nwE
    omega
  -- the masks, one after the other
  have p70 : jnW W.2.1 c = 0 → (¬ ∃ v, InR v ∧ L.filter (tkW W (plW W.2.1 c) k v) = []) → ∀ r q τ, 2 ^ (L.filter (akB W)).length - q = r → q ≤ 2 ^ (L.filter (akB W)).length → GF bdE σ τ → FX ΦR τ.sh τ.r → MmR W wy τ → MkS W c τ → (∀ q, q < 2 ^ (L.filter (akB W)).length → τ.i 2190 q = if pD (saP W (plW W.2.1 c) k (L.filter (akB W)) q) = true then 1 else 0) → (∀ v, InR v → mkV (plW W.2.1 c) (blW W.1) k ((L.filter (akB W)).map (asM W.2.2.2)) v (L.filter (akB W)).length < q → ¬ foI (frI (fun x y => nrI W wy x y k) (L.filter (tkW W (plW W.2.1 c) k v))) < 0) → B_X23_bad_70 Z (d + 1) τ (2409 + 3 * c) (Int32.ofNat q) K := by
    intro hj0 hn1 r
    induction r with
    | zero =>
      intro q τ hr hq g F Mτ Mkτ e2190 hpre
      have e : q = 2 ^ (L.filter (akB W)).length := by omega
      have Cτ := C.ge g (fun j z => by unfold bdE at z; omega) (fun j z => by unfold bdE at z; omega) (fun j _ z => by unfold bdE at z; omega)
      have eN : ((1 : Int32) <<< ((τ.i 0 107) &&& 31)) = Int32.ofNat (2 ^ (L.filter (akB W)).length) := by
        rw [Cτ.2.1.1]
        exact sh_2 ⟨(L.filter (akB W)).length, by omega⟩
      refine S_X23_bad_70 F pc ⟨fun _ => ?_, fun z => absurd (by rw [eN, e]; exact Int32.le_refl _) z⟩
      have hK := h τ F g Mτ Mkτ
      have n2 : ¬ ∃ v, InR v ∧ foI (frI (fun x y => nrI W wy x y k) (L.filter (tkW W (plW W.2.1 c) k v))) < 0 := by
        rintro ⟨v, hv, hs⟩
        have hl := mkV_lt (pl := plW W.2.1 c) (bl := blW W.1) (k := k) (as := (L.filter (akB W)).map (asM W.2.2.2)) (v := v) (L.filter (akB W)).length
        exact hpre v hv (by omega) hs
      rw [if_neg (fun z => hn1 (pD_iff.mp z)), if_neg (fun z => n2 (pD_iff.mp z.2))] at hK
      exact hK
    | succ r ih =>
      intro q τ hr hq g F Mτ Mkτ e2190 hpre
      have hql : q < 2 ^ (L.filter (akB W)).length := by omega
      have Cτ := C.ge g (fun j z => by unfold bdE at z; omega) (fun j z => by unfold bdE at z; omega) (fun j _ z => by unfold bdE at z; omega)
      have Hτ := H.ge g bdn F
      have kτ := hk.ge g (fun j z => by unfold bdE at z; omega)
      have eN : ((1 : Int32) <<< ((τ.i 0 107) &&& 31)) = Int32.ofNat (2 ^ (L.filter (akB W)).length) := by
        rw [Cτ.2.1.1]
        exact sh_2 ⟨(L.filter (akB W)).length, by omega⟩
      refine S_X23_bad_70 F pc ⟨fun z => ?_, fun _ => ⟨ib_oN (by omega) (by decide), ?_⟩⟩
      · exfalso
        rw [eN, oN_le (by omega) (by omega)] at z
        omega
      · rw [oN_t (by omega), e2190 q hql]
        by_cases hsa : saP W (plW W.2.1 c) k (L.filter (akB W)) q
        · rw [if_pos (pD_iff.mpr hsa)]
          obtain ⟨v, hv, hvq⟩ := hsa
          refine ⟨fun z => absurd z (by decide), fun _ => ?_⟩
          refine rf_isSeveral (v := v) hW (by omega) Hτ Mτ kτ Cτ hL (by omega) hN8 hvq (fun υ Fυ gυ Mυ => ?_)
          have gE : GF bdE τ υ := gυ.le (fun a j z => by unfold bdE; omega)
          have Mkυ := Mkτ.ge gυ (by omega) (fun a j q z => by omega)
          have e2190υ : υ.i 2190 = τ.i 2190 := gυ.row (fun j z => by omega) (by decide) (by decide) (by decide)
          by_cases hs : foI (frI (fun x y => nrI W wy x y k) (L.filter (tkW W (plW W.2.1 c) k v))) < 0
          · rw [if_pos hs]
            refine ⟨fun z => absurd z (by decide), fun _ => ?_⟩
            have hK := h υ Fυ (g.tr gE) Mυ Mkυ
            rw [if_neg (fun z => hn1 (pD_iff.mp z)), if_pos ⟨hj0, pD_iff.mpr ⟨v, hv, hs⟩⟩] at hK
            exact hK
          · rw [if_neg hs]
            refine ⟨fun _ => ?_, fun z => absurd rfl z⟩
            rw [oN_1]
            refine ih (q + 1) υ (by omega) (by omega) (g.tr gE) Fυ Mυ Mkυ (fun q2 hq2 => by rw [e2190υ]; exact e2190 q2 hq2) (fun v2 hv2 hlt => ?_)
            by_cases e : mkV (plW W.2.1 c) (blW W.1) k ((L.filter (akB W)).map (asM W.2.2.2)) v2 (L.filter (akB W)).length = q
            · rw [fsame v2 v (e.trans hvq.symm)]
              exact hs
            · exact hpre v2 hv2 (by omega)
        · rw [if_neg (fun z => hsa (pD_iff.mp z))]
          refine ⟨fun _ => ?_, fun z => absurd rfl z⟩
          rw [oN_1]
          refine ih (q + 1) τ (by omega) (by omega) g F Mτ Mkτ e2190 (fun v2 hv2 hlt => ?_)
          by_cases e : mkV (plW W.2.1 c) (blW W.1) k ((L.filter (akB W)).map (asM W.2.2.2)) v2 (L.filter (akB W)).length = q
          · exact absurd ⟨v2, hv2, e⟩ hsa
          · exact hpre v2 hv2 (by omega)
  -- behind the shortcut
  have p30 : ∀ (s : Bool), (s = true ↔ (L.filter (akB W)).length < L.length) → (s = true → jnW W.2.1 c = 0) → B_X23_bad_30 Z (d + 1) σ (2409 + 3 * c) (if s = true then 1 else 0) K := by
    intro s hs hsj
    refine S_X23_bad_30 H.1 ⟨fun z => ?_, fun z => ?_⟩
    · refine rf_lookAt (d := d) hW (by omega) H hc hk C hL (by omega) h8 hM (fun τ F g x1 x2 Mk m2190 => ?_)
      have gB : GF bdE σ τ := g.le lkb
      have Hτ := H.ge gB bdn F
      have Mτ := M.same x1 x2
      have j2τ := (jnW_ok Hτ.2.1 hc).2
      have tail : (¬ ∃ v, InR v ∧ L.filter (tkW W (plW W.2.1 c) k v) = []) → sh0R[2409 + 3 * c]? = some (Sh.obj 14) ∧ (((τ.i (2409 + 3 * c) 2) = 0 → B_X23_bad_70 Z (d + 1) τ (2409 + 3 * c) 0 K) ∧ (¬ (τ.i (2409 + 3 * c) 2) = 0 → K (.inl (some (.int 0))) τ)) := by
        intro hn1
        refine ⟨pc, fun y => ?_, fun y => ?_⟩
        · rw [j2τ, show (0 : Int32) = Int32.ofNat 0 from rfl, oN_eq (by omega) (by omega)] at y
          exact p70 y hn1 _ 0 τ rfl (Nat.zero_le _) gB F Mτ Mk m2190 (fun v _ hlt => by omega)
        · have y : jnW W.2.1 c ≠ 0 := fun q => y (by rw [j2τ, q]; rfl)
          have hK := h τ F gB Mτ Mk
          rw [if_neg (fun z => hn1 (pD_iff.mp z)), if_neg (fun z => y z.1)] at hK
          exact hK
      cases s with
      | true => exact ⟨fun _ => tail (sure1 (hs.mp rfl)), fun z => absurd z (by decide)⟩
      | false =>
        have hns : ¬ (L.filter (akB W)).length < L.length := fun q => by cases hs.mpr q
        refine ⟨fun z => absurd rfl z, fun _ => ?_⟩
        have h0 := m2190 0 (Nat.two_pow_pos _)
        rw [h0]
        by_cases hsa : saP W (plW W.2.1 c) k (L.filter (akB W)) 0
        · rw [if_pos (pD_iff.mpr hsa)]
          refine ⟨fun z => absurd z (by decide), fun _ => ?_⟩
          have hK := h τ F gB Mτ Mk
          rw [if_pos (pD_iff.mpr ((e0 hns).mp hsa))] at hK
          exact hK
        · rw [if_neg (fun z => hsa (pD_iff.mp z))]
          exact ⟨fun _ => tail (fun q => hsa ((e0 hns).mpr q)), fun z => absurd rfl z⟩
    · rw [C.1.1, show (0 : Int32) = Int32.ofNat 0 from rfl, oN_eq (by omega) (by omega)] at z
      have hnil : L = [] := List.eq_nil_of_length_eq_zero z
      have hK := h σ H.1 (GF.refl _ _) M hM
      rw [if_pos (pD_iff.mpr ⟨fun _ => 0, fun i _ => (by decide : (-2147483648 : Int) ≤ 0 ∧ (0 : Int) ≤ 2147483647), by rw [hnil]; rfl⟩)] at hK
      exact hK
  have p16 : ∀ (s : Bool), (s = true ↔ (L.filter (akB W)).length < L.length) → B_X23_bad_16 Z (d + 1) σ (2409 + 3 * c) (if s = true then 1 else 0) K := by
    intro s hs
    cases s with
    | false => exact S_X23_bad_16 H.1 ⟨fun _ => p30 false hs (fun z => by cases z), fun z => absurd rfl z⟩
    | true =>
      refine S_X23_bad_16 H.1 ⟨fun z => absurd z (by decide), fun _ => ⟨pc, fun y => ?_, fun y => ?_⟩⟩
      · rw [j2, show (0 : Int32) = Int32.ofNat 0 from rfl, oN_eq (by omega) (by omega)] at y
        exact p30 true hs (fun _ => y)
      · have y : jnW W.2.1 c ≠ 0 := fun q => y (by rw [j2, q]; rfl)
        have hK := h σ H.1 (GF.refl _ _) M hM
        rw [if_neg (fun z => sure1 (hs.mp rfl) (pD_iff.mp z)), if_neg (fun z => y z.1)] at hK
        exact hK
  refine S_X23_bad_0 H.1 ⟨fun z => p16 false ⟨fun q => (by cases q), fun q => ?_⟩, fun z => p16 true ⟨fun _ => ?_, fun _ => rfl⟩⟩
  · exfalso
    rw [C.1.1, C.2.1.1, oN_le (by omega) (by omega)] at z
    omega
  · rw [C.1.1, C.2.1.1, oN_le (by omega) (by omega)] at z
    omega
end BAD

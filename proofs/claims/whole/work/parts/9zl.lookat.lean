/-! THE REFERENCE: lookAt() -/
/-- the masks kept: none, or those of some methods and kinds -/
def MkS (W : Wld) (c : Nat) (σ : Sg) : Prop := σ.i 0 106 = -1 ∨ ∃ (D : List Nat) (k0 : Nat → Nat), σ.i 0 106 = Int32.ofNat D.length ∧ D.length ≤ 8 ∧ (∀ x ∈ D, (1 ≤ x ∧ x ≤ W.2.2.2.length) ∧ mcW W.2.2.2 x = c) ∧ (∀ (j x : Nat), D[j]? = some x → σ.i 2187 j = Int32.ofNat x) ∧ (∀ i, i < plW W.2.1 c → σ.i 2188 i = Int32.ofNat (k0 i) ∧ k0 i < 24) ∧ (∀ i, plW W.2.1 c ≤ i → k0 i = 0) ∧ ∀ q, q < 2 ^ D.length → σ.i 2190 q = if pD (saP W (plW W.2.1 c) k0 D q) = true then 1 else 0
def lkE (a k : Nat) : Prop := (a = 0 ∧ k = 106) ∨ a = 2187 ∨ a = 2188 ∨ a = 2190
theorem sa_km {W : Wld} {pl : Nat} {k k' : Nat → Nat} {D : List Nat} (hT : ∀ x ∈ D, tsM W.2.2.2 x = .nil ∨ ∃ kn, tsW kn pl (tsM W.2.2.2 x)) (h : ∀ x ∈ D, kmB (tsM W.2.2.2 x) = false) (q : Nat) : saP W pl k D q ↔ saP W pl k' D q := by
  unfold saP
  refine exists_congr fun v => and_congr Iff.rfl ?_
  have e : ∀ n, mkV pl (blW W.1) k (D.map (asM W.2.2.2)) v n = mkV pl (blW W.1) k' (D.map (asM W.2.2.2)) v n := by
    intro n
    induction n with
    | zero => rfl
    | succ n ih =>
      rw [mkV, mkV, ih, List.getElem?_map]
      cases hx : D[n]? with
      | none => rfl
      | some x =>
        have hm := List.mem_of_getElem? hx
        show _ + (if tkM pl (spM W.2.2.2 x) (blW W.1) k (tsM W.2.2.2 x) v = true then 2 ^ n else 0) = _ + (if tkM pl (spM W.2.2.2 x) (blW W.1) k' (tsM W.2.2.2 x) v = true then 2 ^ n else 0)
        have : tkM pl (spM W.2.2.2 x) (blW W.1) k (tsM W.2.2.2 x) v = tkM pl (spM W.2.2.2 x) (blW W.1) k' (tsM W.2.2.2 x) v := by
          unfold tkM
          congr 1
          rcases hT x hm with z | ⟨kn, z⟩
          · rw [z]
            rfl
          · exact km_ts _ z (h x hm)
        rw [this]
  rw [e]
section LOOKAT
variable {Z : zT} {W : Wld} {lst : List Nat} {b wy : Nat} {σ τ : Sg} {K : kS} {c : Nat} {k : Nat → Nat}
theorem me_ge {L : List Nat} (h : ∀ x ∈ L, 1 ≤ meM W.2.2.2 x) : L.length ≤ meS W L := by
  unfold meS
  induction L with
  | nil => exact Nat.le_refl _
  | cons x L ih =>
    have h1 := h x (List.mem_cons_self ..)
    have h2 := ih (fun y hy => h y (List.mem_cons_of_mem _ hy))
    rw [List.map_cons, List.sum_cons, List.length_cons]
    omega
theorem at_me {pl : Nat} {L : List Nat} (h : ∀ x ∈ L, (atM pl (spM W.2.2.2 x) (tsM W.2.2.2 x)).length ≤ meM W.2.2.2 x) : (atA pl (L.map (asM W.2.2.2))).length ≤ meS W L := by
  unfold meS atA
  induction L with
  | nil => exact Nat.le_refl _
  | cons x L ih =>
    have h1 := h x (List.mem_cons_self ..)
    have h2 := ih (fun y hy => h y (List.mem_cons_of_mem _ hy))
    rw [List.map_cons, List.flatMap_cons, List.map_cons, List.sum_cons, List.length_append]
    show (atM pl (spM W.2.2.2 x) (tsM W.2.2.2 x)).length + _ ≤ _
    omega
/-- lookAt() -/
theorem rf_lookAt {d : Nat} {L : List Nat} (hW : WfW W) (hd : 220 ≤ d) (H : NwS W lst b wy σ) (hc : c < W.2.1.length) (hk : KnS 2185 k W.1.length (plW W.2.1 c) σ) (C : CoS W L σ) (hL : ∀ x ∈ L, (1 ≤ x ∧ x ≤ W.2.2.2.length) ∧ mcW W.2.2.2 x = c) (hlen : L.length ≤ 120) (h8 : meS W (L.filter (akB W)) ≤ 8) (hM : MkS W c σ)
    (h : ∀ τ, FX ΦR τ.sh τ.r → GF lkE σ τ → τ.i 2069 = σ.i 2069 → τ.i 2070 = σ.i 2070 → MkS W c τ → (∀ q, q < 2 ^ (L.filter (akB W)).length → τ.i 2190 q = if pD (saP W (plW W.2.1 c) k (L.filter (akB W)) q) = true then 1 else 0) → K (.inl none) τ) : B_X23_lookAt_0 Z d σ (2409 + 3 * c) K := by
  obtain ⟨d, rfl⟩ : ∃ e, d = e + 2 := ⟨d - 2, by omega⟩
  have hc24 := H.2.1.2.1.2.1
  have hk24 := H.2.1.1.2.1
  have h120 := H.2.2.1.2
  have hpl := pl_le H.2.1 hc
  obtain ⟨-, -, w3⟩ := wyW_ok H.2.1 hc
  have pc : sh0R[2409 + 3 * c]? = some (Sh.obj 14) := kE_2 (by omega)
  have hcd : ∀ x ∈ L.filter (akB W), (1 ≤ x ∧ x ≤ W.2.2.2.length) ∧ mcW W.2.2.2 x = c := fun x hx => hL x (List.mem_filter.mp hx).1
  have hme : ∀ x ∈ L.filter (akB W), 1 ≤ meM W.2.2.2 x ∧ (atM (plW W.2.1 c) (spM W.2.2.2 x) (tsM W.2.2.2 x)).length ≤ meM W.2.2.2 x := fun x hx => by
    obtain ⟨h1, h2⟩ := hcd x hx
    obtain ⟨-, -, a3, a4⟩ := H.me hW h1.1 h1.2
    rw [h2] at a4
    exact ⟨a3 (List.mem_filter.mp hx).2, a4⟩
  have hN8 : (L.filter (akB W)).length ≤ 8 := Nat.le_trans (me_ge (fun x hx => (hme x hx).1)) h8
  have hat := at_me (pl := plW W.2.1 c) (fun x hx => (hme x hx).2)
  have hTs : ∀ x ∈ L.filter (akB W), tsM W.2.2.2 x = .nil ∨ ∃ kn, tsW kn (plW W.2.1 c) (tsM W.2.2.2 x) := fun x hx => by
    obtain ⟨h1, h2⟩ := hcd x hx
    have := (H.mt hW h1.1 h1.2).2.2.2.2.1.1
    rw [h2] at this
    rcases this with z | z
    · exact Or.inl z
    · exact Or.inr ⟨_, z⟩
  have hp8 := pw_8 hN8
  generalize hcdd : L.filter (akB W) = cd at *
  have lkn : ∀ a j, lkE a j → nwE a j := fun a j q => by
    unfold lkE at q
    unfold nwE
    omega
  have C1 : σ.i 0 107 = Int32.ofNat cd.length := by rw [← hcdd]; exact C.2.1.1
  have C2 : ∀ (j x : Nat), cd[j]? = some x → σ.i 2189 j = Int32.ofNat x := by rw [← hcdd]; exact C.2.1.2
  -- reckoned anew
  have anew : B_X23_lookAt_192 Z (d + 2) (σ.wi 0 50 (σ.i 0 107)) (2409 + 3 * c) 0 K := by
    have sta : ∀ {τ : Sg}, GF lkE σ τ → τ.i 0 107 = Int32.ofNat cd.length ∧ (∀ (j x : Nat), cd[j]? = some x → τ.i 2189 j = Int32.ofNat x) ∧ τ.i 2185 = σ.i 2185 := fun {τ} g => by
      refine ⟨(g.2.2.1 0 107 (by unfold lkE; omega) (by decide) (by decide) (by decide)).trans C1, fun j x hx => ?_, g.row (fun j z => by unfold lkE at z; omega) (by decide) (by decide) (by decide)⟩
      rw [g.row (fun j z => by unfold lkE at z; omega) (by decide) (by decide) (by decide)]
      exact C2 j x hx
    -- the kinds kept
    have p288 : ∀ r i τ, plW W.2.1 c - i = r → i ≤ plW W.2.1 c → GF lkE σ τ → FX ΦR τ.sh τ.r → τ.i 2069 = σ.i 2069 → τ.i 2070 = σ.i 2070 → τ.i 0 106 = Int32.ofNat cd.length → (∀ (j x : Nat), cd[j]? = some x → τ.i 2187 j = Int32.ofNat x) → (∀ q, q < 2 ^ cd.length → τ.i 2190 q = if pD (saP W (plW W.2.1 c) k cd q) = true then 1 else 0) → (∀ j, j < i → τ.i 2188 j = Int32.ofNat (k j)) → B_X23_lookAt_288 Z (d + 2) τ (2409 + 3 * c) (Int32.ofNat i) K := by
      intro r
      induction r with
      | zero =>
        intro i τ hr hi g F x1 x2 e106 e2187 e2190 e2188
        have e : i = plW W.2.1 c := by omega
        subst e
        have Hτ := H.ge g lkn F
        refine S_X23_lookAt_288 F ⟨pc, fun _ => h τ F g x1 x2 (Or.inr ⟨cd, k, e106, hN8, hcd, e2187, fun i hi => ⟨e2188 i hi, ?_⟩, hk.2.2, e2190⟩) e2190, fun z => absurd (by rw [(wyW_ok Hτ.2.1 hc).2.2]; exact Int32.le_refl _) z⟩
        have := (hk.2.1 i hi).2
        omega
      | succ r ih =>
        intro i τ hr hi g F x1 x2 e106 e2187 e2190 e2188
        have Hτ := H.ge g lkn F
        obtain ⟨-, -, e2185⟩ := sta g
        refine S_X23_lookAt_288 F ⟨pc, fun z => ?_, fun _ => ⟨ib_oN (by omega) (by decide), ib_oN (by omega) (by decide), ?_⟩⟩
        · exfalso
          rw [(wyW_ok Hτ.2.1 hc).2.2, oN_le (by omega) (by omega)] at z
          omega
        · rw [oN_t (by omega), e2185, (hk.2.1 i (by omega)).1, oN_1]
          refine ih (i + 1) _ (by omega) (by omega) (g.tr (GF.wi (by unfold lkE; omega))) F (by rw [wi_row (by decide)]; exact x1) (by rw [wi_row (by decide)]; exact x2) (by rw [wi_ne (by omega)]; exact e106) (fun j x hx => by rw [wi_ne (by omega)]; exact e2187 j x hx) (fun q hq => by rw [wi_ne (by omega)]; exact e2190 q hq) (fun j hj => ?_)
          by_cases q : j = i
          · rw [q, wi_at]
          · rw [wi_ne (by omega)]
            exact e2188 j (by omega)
    -- the masks kept
    have p246 : ∀ r j τ, 2 ^ cd.length - j = r → j ≤ 2 ^ cd.length → GF lkE σ τ → FX ΦR τ.sh τ.r → τ.i 2069 = σ.i 2069 → τ.i 2070 = σ.i 2070 → (∀ (j x : Nat), cd[j]? = some x → τ.i 2187 j = Int32.ofNat x) → (∀ q, q < 2 ^ cd.length → τ.i 2068 q = if pD (saP W (plW W.2.1 c) k cd q) = true then 1 else 0) → (∀ q, q < j → τ.i 2190 q = if pD (saP W (plW W.2.1 c) k cd q) = true then 1 else 0) → B_X23_lookAt_246 Z (d + 2) τ (2409 + 3 * c) (Int32.ofNat j) K := by
      intro r
      induction r with
      | zero =>
        intro j τ hr hj g F x1 x2 e2187 e2068 e2190
        have e : j = 2 ^ cd.length := by omega
        obtain ⟨s1, -⟩ := sta g
        have eN : ((1 : Int32) <<< ((τ.i 0 107) &&& 31)) = Int32.ofNat (2 ^ cd.length) := by
          rw [s1]
          exact sh_2 ⟨cd.length, by omega⟩
        refine S_X23_lookAt_246 F ⟨fun _ => ?_, fun z => absurd (by rw [eN, e]; exact Int32.le_refl _) z⟩
        rw [s1]
        exact p288 _ 0 _ rfl (Nat.zero_le _) (g.tr (GF.wi (by unfold lkE; omega))) F (by rw [wi_row (by decide)]; exact x1) (by rw [wi_row (by decide)]; exact x2) (wi_at _ _ _ _) (fun j x hx => by rw [wi_ne (by omega)]; exact e2187 j x hx) (fun q hq => by rw [wi_ne (by omega)]; exact e2190 q (by omega)) (fun j hj => by omega)
      | succ r ih =>
        intro j τ hr hj g F x1 x2 e2187 e2068 e2190
        obtain ⟨s1, -⟩ := sta g
        have eN : ((1 : Int32) <<< ((τ.i 0 107) &&& 31)) = Int32.ofNat (2 ^ cd.length) := by
          rw [s1]
          exact sh_2 ⟨cd.length, by omega⟩
        refine S_X23_lookAt_246 F ⟨fun z => ?_, fun _ => ⟨ib_oN (by omega) (by decide), ib_oN (by omega) (by decide), ?_⟩⟩
        · exfalso
          rw [eN, oN_le (by omega) (by omega)] at z
          omega
        · have nar : ∀ x : Bool, vp_nar .boolean (if x = true then (1 : Int32) else 0) = if x = true then 1 else 0 := by decide
          rw [oN_t (by omega), e2068 j (by omega), nar, oN_1]
          refine ih (j + 1) _ (by omega) (by omega) (g.tr (GF.wi (by unfold lkE; omega))) F (by rw [wi_row (by decide)]; exact x1) (by rw [wi_row (by decide)]; exact x2) (fun j x hx => by rw [wi_ne (by omega)]; exact e2187 j x hx) (fun q hq => by rw [wi_ne (by omega)]; exact e2068 q hq) (fun q hq => ?_)
          by_cases e : q = j
          · rw [e, wi_at]
          · rw [wi_ne (by omega)]
            exact e2190 q (by omega)
    -- who is asked
    have p192 : ∀ r j τ, cd.length - j = r → j ≤ cd.length → GF lkE σ τ → FX ΦR τ.sh τ.r → τ.i 2069 = σ.i 2069 → τ.i 2070 = σ.i 2070 → τ.i 0 50 = Int32.ofNat cd.length → (∀ i x, i < j → cd[i]? = some x → τ.i 2067 i = Int32.ofNat x ∧ τ.i 2187 i = Int32.ofNat x) → B_X23_lookAt_192 Z (d + 2) τ (2409 + 3 * c) (Int32.ofNat j) K := by
      intro r
      induction r with
      | zero =>
        intro j τ hr hj g F x1 x2 e50 eas
        have e : j = cd.length := by omega
        subst e
        obtain ⟨s1, s2, s3⟩ := sta g
        have Hτ := H.ge g lkn F
        have kτ := hk.ge g (fun j z => by unfold lkE at z; omega)
        refine S_X23_lookAt_192 F ⟨fun _ => ?_, fun z => absurd (by rw [s1]; exact Int32.le_refl _) z⟩
        have hP : SeP 2185 (blW W.1) k W.1.length (plW W.2.1 c) (cd.map (asM W.2.2.2)) τ := by
          refine ⟨F, ⟨kτ.1.1, by decide, by decide, by decide, by decide, by decide, by decide⟩, hpl.2, kτ.2.1, hk24.2, Hτ.2.2.2.2.1, ⟨by rw [List.length_map]; exact e50, by rw [List.length_map]; exact hN8⟩, fun j y hy => ?_, by omega⟩
          rw [List.getElem?_map] at hy
          cases hx : cd[j]? with
          | none =>
            rw [hx] at hy
            cases hy
          | some x =>
            rw [hx] at hy
            cases hy
            obtain ⟨a1, a2⟩ := hcd x (List.mem_of_getElem? hx)
            obtain ⟨-, -, -, b4, ⟨b5, b6, -⟩, b7⟩ := Hτ.mt hW a1.1 a1.2
            rw [a2] at b4 b5 b7
            exact ⟨(eas j x (List.getElem?_eq_some_iff.mp hx).1 hx).1, by show 1 ≤ x ∧ x ≤ 120; omega, b4, ⟨b5, b6⟩, b7⟩
        refine rf_see (d := d + 1) (by omega) hP (fun υ s Fυ gυ hs hq => ?_)
        rw [List.length_map] at hs hq
        have e2069 : υ.i 2069 = τ.i 2069 := funext fun j => gυ.2.2.1 2069 j (by omega) (by decide) (by decide) (by decide) (by decide)
        have e2070 : υ.i 2070 = τ.i 2070 := funext fun j => gυ.2.2.1 2070 j (by omega) (by decide) (by decide) (by decide) (by decide)
        have e2187 : υ.i 2187 = τ.i 2187 := funext fun j => gυ.2.2.1 2187 j (by omega) (by decide) (by decide) (by decide) (by decide)
        refine p246 _ 0 υ rfl (Nat.zero_le _) (g.tr (gυ.nr.gf _)) Fυ (e2069.trans x1) (e2070.trans x2) (fun j x hx => by rw [e2187]; exact (eas j x (List.getElem?_eq_some_iff.mp hx).1 hx).2) (fun q hq2 => ?_) (fun q hq2 => by omega)
        rw [hs q hq2]
        have : s q = pD (saP W (plW W.2.1 c) k cd q) := by
          rw [Bool.eq_iff_iff, hq q hq2, pD_iff]
          unfold saP
          exact Iff.rfl
        rw [this]
      | succ r ih =>
        intro j τ hr hj g F x1 x2 e50 eas
        have hjl : j < cd.length := by omega
        have e : cd[j]? = some cd[j] := List.getElem?_eq_getElem hjl
        obtain ⟨s1, s2, s3⟩ := sta g
        refine S_X23_lookAt_192 F ⟨fun z => ?_, fun _ => ⟨ib_oN (by omega) (by decide), ib_oN (by omega) (by decide), ib_oN (by omega) (by decide), ib_oN (by omega) (by decide), ?_⟩⟩
        · exfalso
          rw [s1, oN_le (by omega) (by omega)] at z
          omega
        · rw [oN_t (by omega), s2 j _ e, oN_1]
          have gw : GF lkE τ (τ.wi 2067 j (Int32.ofNat cd[j])) := ⟨rfl, fun _ _ _ => rfl, fun a i _ _ _ h3 => wi_ne (fun q => h3 (by omega)), fun _ _ => rfl⟩
          refine ih (j + 1) _ (by omega) (by omega) ((g.tr gw).tr (GF.wi (by unfold lkE; omega))) F (by rw [wi_row (by decide), wi_row (by decide)]; exact x1) (by rw [wi_row (by decide), wi_row (by decide)]; exact x2) (by rw [wi_ne (by omega), wi_ne (by omega)]; exact e50) (fun i x hi hx => ?_)
          by_cases q : i = j
          · rw [q, e] at hx
            cases hx
            rw [q, wi_ne (by omega), wi_at, wi_at]
            exact ⟨rfl, rfl⟩
          · rw [wi_ne (by omega), wi_ne (by omega), wi_ne (by omega), wi_ne (by omega)]
            exact eas i x (by omega) hx
    have gw : GF lkE σ (σ.wi 0 50 (σ.i 0 107)) := ⟨rfl, fun _ _ _ => rfl, fun a i _ h2 _ _ => wi_ne (fun q => h2 ⟨q.1, by omega⟩), fun _ _ => rfl⟩
    exact p192 _ 0 _ rfl (Nat.zero_le _) gw H.1 (wi_row (by decide)) (wi_row (by decide)) (by rw [wi_at, C1]) (fun i x hi => by omega)
  -- the masks are there already
  have fin : ∀ (f2 : Bool), (f2 = true → ∀ q, q < 2 ^ cd.length → σ.i 2190 q = if pD (saP W (plW W.2.1 c) k cd q) = true then 1 else 0) → ((if f2 = true then (1 : Int32) else 0) = 0 → B_X23_lookAt_192 Z (d + 2) (σ.wi 0 50 (σ.i 0 107)) (2409 + 3 * c) 0 K) ∧ (¬ (if f2 = true then (1 : Int32) else 0) = 0 → K (.inl none) σ) := by
    intro f2 hf
    refine ⟨fun _ => anew, fun z => ?_⟩
    have : f2 = true := by
      cases q : f2 with
      | true => rfl
      | false =>
        rw [q] at z
        exact absurd rfl z
    exact h σ H.1 (GF.refl _ _) rfl rfl hM (hf this)
  -- the kinds are held against those kept
  have p130 : ∀ (km : Bool), (∀ (f2 : Bool) i, i ≤ plW W.2.1 c → (f2 = true → km = true → (∀ j, j < plW W.2.1 c → j < i → σ.i 2188 j = σ.i 2185 j)) → (f2 = true → (km = true → ∀ j, j < plW W.2.1 c → σ.i 2188 j = σ.i 2185 j) → ∀ q, q < 2 ^ cd.length → σ.i 2190 q = if pD (saP W (plW W.2.1 c) k cd q) = true then 1 else 0) → B_X23_lookAt_130 Z (d + 2) σ (2409 + 3 * c) (if f2 = true then 1 else 0) (if km = true then 1 else 0) (Int32.ofNat i) K) := by
    intro km
    have dead : ∀ i, B_X23_lookAt_130 Z (d + 2) σ (2409 + 3 * c) (if false = true then 1 else 0) (if km = true then 1 else 0) (Int32.ofNat i) K := fun i => S_X23_lookAt_130 H.1 ⟨fun _ => fin false (fun z => by cases z), fun z => absurd rfl z⟩
    intro f2 i hi
    generalize hr : plW W.2.1 c - i = r
    induction r generalizing f2 i with
    | zero =>
      intro hpre hall
      have e : i = plW W.2.1 c := by omega
      subst e
      have ff := fin f2 (fun z => hall z (fun z2 j hj => hpre z z2 j hj hj))
      cases f2 with
      | false => exact dead _
      | true => exact S_X23_lookAt_130 H.1 ⟨fun z => absurd z (by decide), fun _ => ⟨fun _ => ff, fun _ => ⟨pc, fun _ => ff, fun z => absurd (by rw [w3]; exact Int32.le_refl _) z⟩⟩⟩
    | succ r ih =>
      intro hpre hall
      cases f2 with
      | false => exact dead _
      | true =>
        refine S_X23_lookAt_130 H.1 ⟨fun z => absurd z (by decide), fun _ => ⟨fun z => ?_, fun z => ⟨pc, fun w => ?_, fun _ => ⟨ib_oN (by omega) (by decide), ib_oN (by omega) (by decide), fun w => ?_, fun w => ?_⟩⟩⟩⟩
        · have hkm : km = false := by
            cases q : km with
            | false => rfl
            | true =>
              rw [q] at z
              exact absurd z (by decide)
          exact fin true (fun z => hall z (fun z2 => by rw [hkm] at z2; cases z2))
        · exfalso
          rw [w3, oN_le (by omega) (by omega)] at w
          omega
        · rw [oN_1]
          exact ih false (i + 1) (by omega) (by omega) (fun z => by cases z) (fun z => by cases z)
        · rw [oN_1]
          refine ih true (i + 1) (by omega) (by omega) (fun _ z2 j hj hji => ?_) hall
          by_cases q : j = i
          · rw [q]
            rw [oN_t (by omega)] at w
            exact w
          · exact hpre rfl z2 j hj (by omega)
  -- whether kinds matter
  have p63 : ∀ (f2 : Bool), (f2 = true → ((cd.any fun m => kmB (tsM W.2.2.2 m)) = true → ∀ j, j < plW W.2.1 c → σ.i 2188 j = σ.i 2185 j) → ∀ q, q < 2 ^ cd.length → σ.i 2190 q = if pD (saP W (plW W.2.1 c) k cd q) = true then 1 else 0) → ∀ r j, cd.length - j = r → j ≤ cd.length → B_X23_lookAt_63 Z (d + 2) σ (2409 + 3 * c) (if f2 = true then 1 else 0) (if ((cd.take j).any fun m => kmB (tsM W.2.2.2 m)) = true then 1 else 0) (Int32.ofNat j) K := by
    intro f2 hf r
    induction r with
    | zero =>
      intro j hr hj
      have e : j = cd.length := by omega
      subst e
      rw [List.take_length]
      refine S_X23_lookAt_63 H.1 ⟨fun _ => ?_, fun z => absurd (by rw [C1]; exact Int32.le_refl _) z⟩
      exact p130 _ f2 0 (Nat.zero_le _) (fun _ _ j _ hj => by omega) hf
    | succ r ih =>
      intro j hr hj
      have hjl : j < cd.length := by omega
      have e : cd[j]? = some cd[j] := List.getElem?_eq_getElem hjl
      obtain ⟨a1, a2⟩ := hcd _ (List.getElem_mem hjl)
      obtain ⟨-, -, -, ⟨-, -, -, b4⟩, ⟨b5, b6, -⟩, -⟩ := H.mt hW a1.1 a1.2
      rw [a2] at b5
      have nx := ih (j + 1) (by omega) (by omega)
      have ea : ((cd.take (j + 1)).any fun m => kmB (tsM W.2.2.2 m)) = (((cd.take j).any fun m => kmB (tsM W.2.2.2 m)) || kmB (tsM W.2.2.2 cd[j])) := by
        rw [List.take_add_one, e]
        show List.any (cd.take j ++ [cd[j]]) _ = _
        rw [List.any_append]
        congr 1
        simp
      rw [ea] at nx
      refine S_X23_lookAt_63 H.1 ⟨fun z => ?_, fun _ => ⟨fun z => ?_, fun z => ⟨ib_oN (by omega) (by decide), ?_, ?_⟩⟩⟩
      · exfalso
        rw [C1, oN_le (by omega) (by omega)] at z
        omega
      · have : ((cd.take j).any fun m => kmB (tsM W.2.2.2 m)) = true := by
          cases q : ((cd.take j).any fun m => kmB (tsM W.2.2.2 m)) with
          | true => rfl
          | false =>
            rw [q] at z
            exact absurd rfl z
        rw [this, Bool.true_or] at nx
        rw [oN_1]
        exact nx
      · rw [oN_t (by omega), C2 j _ e]
        exact ib_oN (by omega) (by decide)
      · have hf0 : ((cd.take j).any fun m => kmB (tsM W.2.2.2 m)) = false := by
          cases q : ((cd.take j).any fun m => kmB (tsM W.2.2.2 m)) with
          | false => rfl
          | true =>
            rw [q] at z
            exact absurd z (by decide)
        rw [hf0, Bool.false_or] at nx
        have ibj : ib (σ.i 2189 (Int32.ofNat j).toNatClampNeg) 121 := by
          rw [oN_t (by omega), C2 j _ e]
          exact ib_oN (by omega) (by decide)
        have ex : 2497 + 4 * (σ.i 2189 (Int32.ofNat j).toNatClampNeg).toNatClampNeg = 2497 + 4 * cd[j] := by
          rw [oN_t (by omega), C2 j _ e, oN_t (by omega)]
        refine ⟨fun w => ?_, fun w => ⟨ib_oN (by omega) (by decide), ibj, ?_⟩⟩
        · rw [ex] at w
          have hn : tsM W.2.2.2 cd[j] = .nil := by
            rcases b5 with y | y
            · exact y
            · exact absurd ((ts_nil b4).mp w) (ts_nn y)
          rw [hn] at nx
          rw [oN_1]
          exact nx
        · rw [ex] at w ⊢
          have hw : tsW W.1.length (plW W.2.1 c) (tsM W.2.2.2 cd[j]) := by
            rcases b5 with y | y
            · rw [y] at b4
              exact absurd b4 w
            · exact y
          refine rf_asksKinds _ hw H.1 (d + 1) _ _ (by omega) b4 ?_
          cases q : kmB (tsM W.2.2.2 cd[j]) <;> rw [q] at nx
          · refine ⟨fun _ => ?_, fun y => absurd rfl y⟩
            rw [oN_1]
            exact nx
          · refine ⟨fun y => absurd y (by decide), fun _ => ?_⟩
            rw [oN_1]
            exact nx
  have done63 : ∀ (f2 : Bool), (f2 = true → ((cd.any fun m => kmB (tsM W.2.2.2 m)) = true → ∀ j, j < plW W.2.1 c → σ.i 2188 j = σ.i 2185 j) → ∀ q, q < 2 ^ cd.length → σ.i 2190 q = if pD (saP W (plW W.2.1 c) k cd q) = true then 1 else 0) → B_X23_lookAt_63 Z (d + 2) σ (2409 + 3 * c) (if f2 = true then 1 else 0) 0 0 K := fun f2 hf => p63 f2 hf _ 0 rfl (Nat.zero_le _)
  have dead19 : ∀ j, B_X23_lookAt_19 Z (d + 2) σ (2409 + 3 * c) 0 (Int32.ofNat j) K := fun j => S_X23_lookAt_19 H.1 ⟨fun _ => done63 false (fun z => by cases z), fun z => absurd rfl z⟩
  -- whether they are the same methods
  have p19 : (σ.i 0 106 = Int32.ofNat cd.length) → ∀ r j, cd.length - j = r → j ≤ cd.length → (∀ i x, i < j → cd[i]? = some x → σ.i 2187 i = Int32.ofNat x) → B_X23_lookAt_19 Z (d + 2) σ (2409 + 3 * c) 1 (Int32.ofNat j) K := by
    intro e106 r
    induction r with
    | zero =>
      intro j hr hj hpre
      have e : j = cd.length := by omega
      subst e
      refine S_X23_lookAt_19 H.1 ⟨fun z => absurd z (by decide), fun _ => ⟨fun _ => ?_, fun z => absurd (by rw [C1]; exact Int32.le_refl _) z⟩⟩
      refine done63 true (fun _ hkm q hq => ?_)
      rcases hM with z | ⟨D, k0, d1, d2, d3, d4, d5, d6, d7⟩
      · rw [e106] at z
        exfalso
        have := congrArg Int32.toInt z
        rw [oN_i (by omega)] at this
        have : (cd.length : Int) = -1 := this
        omega
      · rw [e106, oN_eq (by omega) (by omega)] at d1
        have hD : D = cd := by
          refine List.ext_getElem? fun i => ?_
          by_cases hi : i < cd.length
          · have f1 : D[i]? = some D[i] := List.getElem?_eq_getElem (by omega)
            have f2 : cd[i]? = some cd[i] := List.getElem?_eq_getElem hi
            have g1 := d4 i _ f1
            rw [hpre i _ hi f2] at g1
            have r1 := (d3 _ (List.mem_of_getElem? f1)).1
            have r2 := (hcd _ (List.mem_of_getElem? f2)).1
            rw [oN_eq (by omega) (by omega)] at g1
            rw [f1, f2, g1]
          · rw [List.getElem?_eq_none (by omega), List.getElem?_eq_none (by omega)]
        subst hD
        rw [d7 q hq]
        have hsame : pD (saP W (plW W.2.1 c) k0 D q) = pD (saP W (plW W.2.1 c) k D q) := by
          cases hany : (D.any fun m => kmB (tsM W.2.2.2 m)) with
          | true =>
            have hk2 := hkm hany
            have ek : k0 = k := by
              funext i
              by_cases hi : i < plW W.2.1 c
              · have g1 := hk2 i hi
                rw [(d5 i hi).1, (hk.2.1 i hi).1] at g1
                have g2 := (d5 i hi).2
                have g3 := (hk.2.1 i hi).2
                rw [oN_eq (by omega) (by omega)] at g1
                exact g1
              · rw [d6 i (by omega), hk.2.2 i (by omega)]
            rw [ek]
          | false =>
            rw [List.any_eq_false] at hany
            rw [Bool.eq_iff_iff, pD_iff, pD_iff]
            exact sa_km hTs (fun x hx => Bool.eq_false_iff.mpr (hany x hx)) q
        rw [hsame]
    | succ r ih =>
      intro j hr hj hpre
      have hjl : j < cd.length := by omega
      have e : cd[j]? = some cd[j] := List.getElem?_eq_getElem hjl
      refine S_X23_lookAt_19 H.1 ⟨fun z => absurd z (by decide), fun _ => ⟨fun z => ?_, fun _ => ⟨ib_oN (by omega) (by decide), ib_oN (by omega) (by decide), fun z => ?_, fun z => ?_⟩⟩⟩
      · exfalso
        rw [C1, oN_le (by omega) (by omega)] at z
        omega
      · rw [oN_1]
        exact dead19 (j + 1)
      · rw [oN_t (by omega), C2 j _ e] at z
        rw [oN_1]
        refine ih (j + 1) (by omega) (by omega) (fun i x hi hx => ?_)
        by_cases q : i = j
        · rw [q, e] at hx
          cases hx
          rw [q]
          exact z
        · exact hpre i x (by omega) hx
  refine S_X23_lookAt_0 H.1 ⟨fun z => dead19 0, fun z => ?_⟩
  rw [C1] at z
  exact p19 z _ 0 rfl (Nat.zero_le _) (fun i x hi => by omega)
end LOOKAT

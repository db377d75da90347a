/-! THE REFERENCE: eval() whole; rows of a choice -/
theorem nd_pa (op : Nat) (v w : Int) (a b c : Ast) : ndC a ≤ ndC (aN op v w a b c) ∧ ndC b ≤ ndC (aN op v w a b c) ∧ ndC c ≤ ndC (aN op v w a b c) := by
  rw [ndC_2]
  exact ⟨by omega, by omega, by omega⟩
section EVAL5
variable {Z : zT} {W : Wld} {lst : List Nat} {b wy ch fuel dp cn D : Nat} {pl : Nat} {cl : Cf} {fu : Nf} {Fr : Sg → Prop} {B : Nat → Prop}
theorem eh_all (hFr : ∀ nv σ τ, EvF dp cn nv σ τ → Fr σ → Fr τ) (hFl : ∀ σ v, Fr σ → Fr (σ.wl 0 68 v)) (hD : 10 ≤ D) (hC : WfC W.2.1) (hmk : 1 ∈ mkW W.1 ∧ 2 ∈ mkW W.1) {own : Int} (hcl : ClH Z W lst b wy ch fuel dp cn D cl Fr) (hfu : 0 ≤ own → (own.toNat < W.2.1.length ∧ pl = plW W.2.1 own.toNat) ∧ FuH Z W lst b wy ch fuel dp cn D pl fu Fr) (x : Ast) (lk : Bool) (nv : Nat) (h : exW (evW W own) x lk nv) (hn : ndC x ≤ 300) : EvH Z W lst b wy ch fuel dp cn D pl cl fu Fr B x lk nv := by
  revert hn
  refine ex_ind (E := evW W own) (P := fun x lk nv => ndC x ≤ 300 → EvH Z W lst b wy ch fuel dp cn D pl cl fu Fr B x lk nv) ?_ ?_ ?_ ?_ ?_ ?_ ?_ ?_ ?_ ?_ ?_ ?_ ?_ ?_ x lk nv h
  · intro op v w a b' nv ho hv h14 _ _ ia ib hn
    obtain ⟨n1, n2, n3⟩ := nd_pa op v w a b' .nil
    rcases ho with rfl | rfl
    · exact eh_1 hFr hD v w a b' nv hv h14 (ia (by omega)) (ib (by omega))
    · exact eh_5 hFr hD v w a b' nv hv h14 (ia (by omega)) (ib (by omega))
  · intro v w a b' c nv _ _ _ ia ib ic hn
    obtain ⟨n1, n2, n3⟩ := nd_pa 2 v w a b' c
    exact eh_2 hFr hD v w a b' c nv (ia (by omega)) (ib (by omega)) (ic (by omega))
  · intro op v w a nv ho hv _ ia hn
    obtain ⟨n1, n2, n3⟩ := nd_pa op v w a .nil .nil
    rcases ho with rfl | rfl
    · exact eh_3 hFr hFl hD v w a nv hv (ia (by omega))
    · exact eh_4 hFr hFl hD v w a nv hv (ia (by omega))
  · intro op v w a nv ho _ ia hn
    obtain ⟨n1, n2, n3⟩ := nd_pa op v w a .nil .nil
    rcases ho with rfl | rfl | rfl
    · exact eh_6 hFr hD v w a nv (ia (by omega))
    · exact eh_7 hFr hD v w a nv (ia (by omega))
    · exact eh_16 hFr hD hmk.1 v w a nv (ia (by omega))
  · intro v w a b' nv hv _ _ ia ib hn
    obtain ⟨n1, n2, n3⟩ := nd_pa 8 v w a b' .nil
    exact eh_8 hFr hD hmk.1 v w a b' nv hv (ia (by omega)) (ib (by omega))
  · intro v w a nv hv _ ia hn
    obtain ⟨n1, n2, n3⟩ := nd_pa 9 v w a .nil .nil
    exact eh_9 hFr hD hmk.1 v w a nv hv (ia (by omega))
  · intro v w a b' nv hw _ hb ia ib hn
    obtain ⟨n1, n2, n3⟩ := nd_pa 10 v w a b' .nil
    have l1 := lk_pos hb
    have l2 := lk_nd hb
    exact eh_10 hFr hD v w a b' nv hw ⟨by omega, by omega⟩ (ia (by omega)) (ib (by omega))
  · intro v w nv _ hn
    exact eh_11 hFr hD hmk.1 v w nv
  · intro v w nv hv hn
    exact eh_12 hFr hD v w nv hv
  · intro v a nv hv hb _ ia hn
    obtain ⟨n1, n2, n3⟩ := nd_pa 13 v 1 a .nil .nil
    have hv : 0 ≤ v ∧ v < (W.1.length : Int) := hv
    have hb : ((W.1[v.toNat]?).map (·.2.1)).getD false = false := hb
    refine eh_13 hFr hD v a nv ⟨hv.1, List.mem_filter.mpr ⟨List.mem_range.mpr (by omega), ?_⟩⟩ (ia (by omega))
    rw [hb]
    rfl
  · intro v w a b' c nv hv hw _ ia ib _ ic _ hn
    obtain ⟨n1, n2, n3⟩ := nd_pa 14 v w a b' c
    have hv : 0 ≤ v ∧ v < (W.2.1.length : Int) := hv
    have hw : w = (plW W.2.1 v.toNat : Int) := hw
    have hp := plW_ok hC (k := v.toNat) (by omega)
    exact eh_14 hFr hD hcl v w a b' c nv hv hw ⟨by omega, by omega⟩ (ia (by omega)) (fun z => (ib z).2 (by omega)) (fun z => (ic z).2 (by omega))
  · intro v nv ho hn
    obtain ⟨⟨h1, h2⟩, h3⟩ := hfu ho
    have hp := plW_ok hC h1
    exact eh_nx hFr hD h3 (by omega) v nv
  · intro v w a b' c nv ho hw _ ia ib _ ic _ hn
    obtain ⟨n1, n2, n3⟩ := nd_pa 15 v w a b' c
    obtain ⟨⟨h1, h2⟩, h3⟩ := hfu ho
    have hp := plW_ok hC h1
    have hw : w = (plW W.2.1 own.toNat : Int) := hw
    exact eh_15 hFr hD h3 v w a b' c nv (by omega) ⟨by omega, by omega⟩ (ia (by omega)) (fun z => (ib z).2 (by omega)) (fun z => (ic z).2 (by omega))
  · intro op v w a b' nv ho _ hb ia hn
    obtain ⟨n1, n2, n3⟩ := nd_pa op v w a b' .nil
    refine eh_lk hFr hD hmk op v w a b' nv ho (ia (by omega)) ?_
    rcases hb with rfl | ⟨hb, ib⟩
    · exact Or.inl rfl
    · exact Or.inr ⟨(lk_pos hb).2, ib (by omega)⟩
end EVAL5
/-! rows of a choice: who is in them -/
section ROWM
variable {nr : Nat → Nat → Int} {st : Bool}
theorem pkO_lt {L : List Nat} (hne : L ≠ []) {i : Nat} (h : pkO nr st L = some i) : i < L.length := by
  have hl : 0 < L.length := List.length_pos_iff.mpr hne
  have f1 := foI_r (frI nr L) L.length frI_lt
  have f2 := leI_r (frI nr L) L.length frI_lt
  unfold pkO at h
  split at h
  · have := Option.some.inj h
    omega
  · split at h
    · cases h
    · have := Option.some.inj h
      omega
theorem lyG_mem : ∀ f (L : List Nat), (∀ x ∈ (lyG nr st f L).1, x ∈ L) ∧ (lyG nr st f L).1.length ≤ f
  | 0, L => ⟨fun x hx => (by cases hx), Nat.zero_le _⟩
  | f + 1, L => by
    by_cases hne : L = []
    · have e : lyG nr st (f + 1) L = ([], false) := if_pos hne
      rw [e]
      exact ⟨fun x hx => (by cases hx), Nat.zero_le _⟩
    · cases hp : pkO nr st L with
      | none =>
        rw [lyG_none hne hp]
        exact ⟨fun x hx => (by cases hx), Nat.zero_le _⟩
      | some i =>
        obtain ⟨h1, h2⟩ := lyG_mem f (L.eraseIdx i)
        have hi := pkO_lt hne hp
        rw [lyG_some hne hp]
        refine ⟨fun x hx => ?_, Nat.succ_le_succ h2⟩
        rcases List.mem_cons.mp hx with rfl | hx
        · rw [List.getD_eq_getElem?_getD, List.getElem?_eq_getElem hi]
          exact List.getElem_mem hi
        · exact List.mem_of_mem_eraseIdx (h1 x hx)
theorem rwG_mem : ∀ gs : List (List Nat), (∀ x ∈ (rwG nr st gs).1, ∃ g ∈ gs, x ∈ g) ∧ (rwG nr st gs).1.length ≤ (gs.map List.length).sum
  | [] => ⟨fun x hx => (by cases hx), Nat.le_refl _⟩
  | g :: r => by
    obtain ⟨h1, h2⟩ := lyG_mem (nr := nr) (st := st) g.length g
    obtain ⟨h3, h4⟩ := rwG_mem r
    rw [rwG, List.map_cons, List.sum_cons]
    split
    · exact ⟨fun x hx => ⟨g, List.mem_cons_self .., h1 x hx⟩, Nat.le_trans h2 (Nat.le_add_right _ _)⟩
    · refine ⟨fun x hx => ?_, by rw [List.length_append]; omega⟩
      rcases List.mem_append.mp hx with q | q
      · exact ⟨g, List.mem_cons_self .., h1 x q⟩
      · obtain ⟨g', q1, q2⟩ := h3 x q
        exact ⟨g', List.mem_cons_of_mem _ q1, q2⟩
theorem lyS_nd {on : List Nat} (h : on.Nodup) : (lyS on).Nodup := by
  unfold lyS
  refine List.nodup_append.mpr ⟨?_, by simp, ?_⟩
  · show List.Pairwise (· ≠ ·) _
    rw [List.pairwise_map, List.pairwise_reverse]
    exact List.Pairwise.imp (fun {a b} q => by omega) h
  · intro a ha b hb
    obtain ⟨x, -, rfl⟩ := List.mem_map.mp ha
    rw [List.mem_singleton] at hb
    omega
end ROWM
/-- the rows of a choice: methods of that call, 120 at most -/
def RwG (W : Wld) (c : Nat) (R : Nat → List Nat × Bool) : Prop := ∀ role, (R role).1.length ≤ 120 ∧ ∀ m ∈ (R role).1, (1 ≤ m ∧ m ≤ W.2.2.2.length) ∧ mcW W.2.2.2 m = c
theorem rowW_ok {W : Wld} {wy : Nat} {on : List Nat} {c : Nat} {k : Nat → Nat} {v : Nat → Int} (hon : on.Nodup) (h120 : W.2.2.2.length ≤ 120) : RwG W c (rowW W wy on c k (apL W on c k v W.2.2.2.length)) := by
  intro role
  unfold rowW
  obtain ⟨h1, h2⟩ := rwG_mem (nr := fun x y => nrI W wy x y k) (st := decide (role = 1) || (decide (role = 0) && decide (jnW W.2.1 c = 0))) ((lyS on).map (gpL W.2.2.2 (apL W on c k v W.2.2.2.length) role))
  have h3 := gp_sum W.2.2.2 (apL W on c k v W.2.2.2.length) role (lyS on) (lyS_nd hon)
  have h4 := List.length_filter_le (fun m => decide (lyM W.2.2.2 m ∈ lyS on)) (apL W on c k v W.2.2.2.length)
  have h5 := apL_len (W := W) (on := on) (c := c) (k := k) (v := v) (n := W.2.2.2.length)
  refine ⟨by omega, fun m hm => ?_⟩
  obtain ⟨g, q1, q2⟩ := h1 m hm
  obtain ⟨l, -, rfl⟩ := List.mem_map.mp q1
  exact apL_mem m (List.mem_filter.mp q2).1

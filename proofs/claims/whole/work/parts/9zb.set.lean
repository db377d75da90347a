/-! PURE: how many different ones -/
noncomputable def dsN {α : Type} : List α → Nat
  | [] => 0
  | x :: r => if pD (x ∈ r) = true then dsN r else dsN r + 1
section DSN
variable {α β : Type}
/-- a list of the same without repetition -/
theorem dsN_ex : ∀ L : List α, ∃ D : List α, D.Nodup ∧ (∀ x, x ∈ D ↔ x ∈ L) ∧ D.length = dsN L
  | [] => ⟨[], List.nodup_nil, fun _ => Iff.rfl, rfl⟩
  | x :: r => by
    obtain ⟨D, h1, h2, h3⟩ := dsN_ex r
    by_cases q : x ∈ r
    · refine ⟨D, h1, fun y => ?_, ?_⟩
      · rw [h2, List.mem_cons]
        constructor
        · exact fun z => Or.inr z
        · rintro (z | z)
          · rw [z]
            exact q
          · exact z
      · rw [dsN, if_pos (pD_iff.mpr q), h3]
    · refine ⟨x :: D, List.nodup_cons.mpr ⟨fun z => q ((h2 x).mp z), h1⟩, fun y => ?_, ?_⟩
      · rw [List.mem_cons, List.mem_cons, h2]
      · rw [dsN, if_neg (fun z => q (pD_iff.mp z)), List.length_cons, h3]
theorem nd_le : ∀ (D E : List α), D.Nodup → (∀ x ∈ D, x ∈ E) → D.length ≤ E.length
  | [], E, _, _ => Nat.zero_le _
  | x :: D, E, h, hs => by
    obtain ⟨h1, h2⟩ := List.nodup_cons.mp h
    obtain ⟨a, b, e⟩ := List.append_of_mem (hs x (List.mem_cons_self ..))
    have := nd_le D (a ++ b) h2 (fun y hy => by
      have hy2 := hs y (List.mem_cons_of_mem _ hy)
      rw [e] at hy2
      rcases List.mem_append.mp hy2 with z | z
      · exact List.mem_append_left _ z
      · rcases List.mem_cons.mp z with z | z
        · rw [z] at hy
          exact absurd hy h1
        · exact List.mem_append_right _ z)
    rw [e]
    rw [List.length_append] at this ⊢
    rw [List.length_cons, List.length_cons]
    omega
theorem dsN_nd {L D : List α} (h1 : D.Nodup) (h2 : ∀ x, x ∈ D ↔ x ∈ L) : D.length = dsN L := by
  obtain ⟨E, e1, e2, e3⟩ := dsN_ex L
  have a := nd_le D E h1 (fun x hx => (e2 x).mpr ((h2 x).mp hx))
  have b := nd_le E D e1 (fun x hx => (h2 x).mpr ((e2 x).mp hx))
  omega
theorem dsN_mem {L L' : List α} (h : ∀ x, x ∈ L ↔ x ∈ L') : dsN L = dsN L' := by
  obtain ⟨D, d1, d2, d3⟩ := dsN_ex L
  rw [← d3]
  exact dsN_nd d1 (fun x => (d2 x).trans (h x))
theorem dsN_map {γ : Type} {f : γ → α} {g : γ → β} : ∀ {L : List γ}, (∀ x ∈ L, ∀ y ∈ L, f x = f y ↔ g x = g y) → dsN (L.map f) = dsN (L.map g)
  | [], _ => rfl
  | x :: r, h => by
    have ih := dsN_map (L := r) (fun a ha b hb => h a (List.mem_cons_of_mem _ ha) b (List.mem_cons_of_mem _ hb))
    rw [List.map_cons, List.map_cons, dsN, dsN, ih]
    have e : (f x ∈ r.map f) ↔ (g x ∈ r.map g) := by
      rw [List.mem_map, List.mem_map]
      constructor
      · rintro ⟨y, hy, e⟩
        exact ⟨y, hy, (h y (List.mem_cons_of_mem _ hy) x (List.mem_cons_self ..)).mp e⟩
      · rintro ⟨y, hy, e⟩
        exact ⟨y, hy, (h y (List.mem_cons_of_mem _ hy) x (List.mem_cons_self ..)).mpr e⟩
    by_cases q : f x ∈ r.map f
    · rw [if_pos (pD_iff.mpr q), if_pos (pD_iff.mpr (e.mp q))]
    · rw [if_neg (fun z => q (pD_iff.mp z)), if_neg (fun z => q (e.mpr (pD_iff.mp z)))]
theorem dsN_le (L : List α) : dsN L ≤ L.length := by
  obtain ⟨D, d1, d2, d3⟩ := dsN_ex L
  rw [← d3]
  exact nd_le D L d1 (fun x hx => (d2 x).mp hx)
/-- the numbers below n don't fit into fewer places -/
theorem pig : ∀ (n : Nat) (Q : List Nat), (∀ p, p < n → p ∈ Q) → n ≤ Q.length := by
  intro n Q h
  have := nd_le (List.range n) Q List.nodup_range (fun x hx => h x (List.mem_range.mp hx))
  rw [List.length_range] at this
  exact this
end DSN
/-! THE REFERENCE: the pairs of longs that were met -/
def hsX (a b : Int64) : Nat := ((a * (-7046029254386353131 : Int64)) + (b * (-4417276706812531889 : Int64))).toUInt64.toNat / 281474976710656
theorem hsX_lt (a b : Int64) : hsX a b < 65536 := by
  unfold hsX
  have := ((a * (-7046029254386353131 : Int64)) + (b * (-4417276706812531889 : Int64))).toUInt64.toNat_lt
  omega
theorem hs_eq (x : Int64) : Int64.toInt32 ((Int64.toUInt64 x >>> ((Int32.toInt64 (48 : Int32)).toUInt64 &&& Int64.toUInt64 63)).toInt64) = Int32.ofNat (x.toUInt64.toNat / 281474976710656) := by
  have e : ((Int32.toInt64 (48 : Int32)).toUInt64 &&& Int64.toUInt64 63) = 48 := by decide
  have hb := x.toUInt64.toNat_lt
  rw [e]
  have e2 : (Int64.toUInt64 x >>> (48 : UInt64)).toInt64 = Int64.ofNat (x.toUInt64.toNat / 281474976710656) := by
    refine i64_e (by omega) ?_
    show (Int64.toUInt64 x >>> (48 : UInt64)).toNat = _
    rw [UInt64.toNat_shiftRight, Nat.shiftRight_eq_div_pow]
    rfl
  rw [e2]
  apply Int32.toInt_inj.mp
  rw [Int64.toInt_toInt32, i64_oi (by omega), oN_i (by omega), Int.bmod_def]
  omega
theorem nx_eq {p : Nat} (h : p < 65536) : (Int32.ofNat p + (1 : Int32)) &&& (65535 : Int32) = Int32.ofNat ((p + 1) % 65536) := by
  rw [oN_1]
  apply Int32.toBitVec_inj.mp
  apply BitVec.eq_of_toNat_eq
  rw [Int32.toBitVec_and, BitVec.toNat_and, oN_bv, oN_bv, BitVec.toNat_ofNat, BitVec.toNat_ofNat, show (65535 : Int32).toBitVec.toNat = 2 ^ 16 - 1 from rfl, Nat.and_two_pow_sub_one_eq_mod]
  omega
/-- the table holds just S -/
def HsS (σ : Sg) (S : List (Int64 × Int64)) : Prop := ∃ Q : List Nat, Q.length ≤ S.length ∧ (∀ p, p < 65536 → σ.i 2128 p ≠ 0 → p ∈ Q ∧ (σ.l 2126 p, σ.l 2127 p) ∈ S) ∧ ∀ x ∈ S, ∃ j, (σ.l 2126 ((hsX x.1 x.2 + j) % 65536), σ.l 2127 ((hsX x.1 x.2 + j) % 65536)) = x ∧ ∀ i, i ≤ j → σ.i 2128 ((hsX x.1 x.2 + i) % 65536) ≠ 0
/-- what isNew() may write -/
def HsF (σ τ : Sg) : Prop := τ.sh = σ.sh ∧ τ.r = σ.r ∧ (∀ a, a ≠ 2128 → τ.i a = σ.i a) ∧ ∀ a, a ≠ 2126 → a ≠ 2127 → τ.l a = σ.l a
theorem HsF.refl (σ : Sg) : HsF σ σ := ⟨rfl, rfl, fun _ _ => rfl, fun _ _ _ => rfl⟩
theorem HsF.tr {σ τ υ : Sg} (h : HsF σ τ) (g : HsF τ υ) : HsF σ υ := ⟨g.1.trans h.1, g.2.1.trans h.2.1, fun a ha => (g.2.2.1 a ha).trans (h.2.2.1 a ha), fun a h1 h2 => (g.2.2.2 a h1 h2).trans (h.2.2.2 a h1 h2)⟩
theorem HsF.fx {σ τ : Sg} (h : HsF σ τ) (F : FX ΦR σ.sh σ.r) : FX ΦR τ.sh τ.r := by
  rw [h.1, h.2.1]
  exact F
section HASH
variable {Z : zT} {d : Nat} {σ : Sg} {K : kS} {S : List (Int64 × Int64)}
theorem rf_isNew {a b : Int64} (F : FX ΦR σ.sh σ.r) (H : HsS σ S) (hS : S.length < 60000) (h0 : (a, b) ∈ S → K (.inl (some (.int 0))) σ) (h1 : (a, b) ∉ S → ∀ τ, HsF σ τ → HsS τ ((a, b) :: S) → K (.inl (some (.int 1))) τ) : B_X23_isNew_0 Z (d + 1) σ a b K := by
  obtain ⟨Q, q1, q2, q3⟩ := H
  have hh := hsX_lt a b
  -- a free place is within reach
  obtain ⟨n, hn, hfree⟩ : ∃ n, n < 65536 ∧ σ.i 2128 ((hsX a b + n) % 65536) = 0 := by
    refine Classical.byContradiction fun hno => ?_
    have hall : ∀ p, p < 65536 → p ∈ Q := fun p hp => by
      refine (q2 p hp fun z => hno ⟨(p + 65536 - hsX a b) % 65536, by omega, ?_⟩).1
      rw [show (hsX a b + (p + 65536 - hsX a b) % 65536) % 65536 = p by omega]
      exact z
    have := pig 65536 Q hall
    omega
  have loop : ∀ m i, n - i = m → i ≤ n → (∀ j, j < i → σ.i 2128 ((hsX a b + j) % 65536) ≠ 0 ∧ (σ.l 2126 ((hsX a b + j) % 65536), σ.l 2127 ((hsX a b + j) % 65536)) ≠ (a, b)) → B_X23_isNew_21 Z (d + 1) σ a b (Int32.ofNat ((hsX a b + i) % 65536)) K := by
    intro m
    induction m with
    | zero => ?_
    | succ m ih => ?_
    all_goals
      intro i hm hi hpre
      have hp : (hsX a b + i) % 65536 < 65536 := Nat.mod_lt _ (by decide)
      have hib : ib (Int32.ofNat ((hsX a b + i) % 65536)) 65536 := ib_oN hp (by decide)
      have et : (Int32.ofNat ((hsX a b + i) % 65536)).toNatClampNeg = (hsX a b + i) % 65536 := oN_t (by omega)
      refine S_X23_isNew_21 F ⟨hib, fun z => ⟨hib, hib, hib, ?_⟩, fun z => ⟨hib, fun y => ?_, fun y => ⟨hib, fun w => ?_, fun w => ?_⟩⟩⟩
      · -- free: it is new
        rw [et] at z ⊢
        rw [show vp_nar .boolean (1 : Int32) = 1 by decide]
        have hnew : (a, b) ∉ S := fun hin => by
          obtain ⟨j, j1, j2⟩ := q3 _ hin
          by_cases hji : j < i
          · exact (hpre j hji).2 j1
          · exact j2 i (by omega) z
        refine h1 hnew _ ⟨rfl, rfl, fun x hx => ?_, fun x x1 x2 => ?_⟩ ⟨(hsX a b + i) % 65536 :: Q, ?_, fun p hp2 hocc => ?_, fun x hx => ?_⟩
        · show (σ.wi 2128 _ _).i x = _
          exact wi_row hx
        · exact funext fun j => by
            rw [wl_l, if_neg (fun q => x2 q.1), wl_l, if_neg (fun q => x1 q.1)]
            rfl
        · rw [List.length_cons, List.length_cons]
          omega
        · have hocc : (σ.wi 2128 ((hsX a b + i) % 65536) (1 : Int32)).i 2128 p ≠ 0 := hocc
          by_cases e : p = (hsX a b + i) % 65536
          · refine ⟨by rw [e]; exact List.mem_cons_self .., ?_⟩
            rw [e, wl_l, if_neg (by omega), wl_l, if_pos ⟨rfl, rfl⟩, wl_l, if_pos ⟨rfl, rfl⟩]
            exact List.mem_cons_self ..
          · rw [wi_ne (fun q => e q.2)] at hocc
            obtain ⟨b1, b2⟩ := q2 p hp2 hocc
            refine ⟨List.mem_cons_of_mem _ b1, ?_⟩
            rw [wl_l, if_neg (fun q => e q.2), wl_l, if_neg (fun q => e q.2), wl_l, if_neg (fun q => e q.2)]
            exact List.mem_cons_of_mem _ b2
        · rcases List.mem_cons.mp hx with e | hx
          · rw [e]
            refine ⟨i, ?_, fun i' hi' => ?_⟩
            · dsimp only
              rw [wl_l, if_neg (by omega), wl_l, if_pos ⟨rfl, rfl⟩, wl_l, if_pos ⟨rfl, rfl⟩]
            · show (σ.wi 2128 ((hsX a b + i) % 65536) (1 : Int32)).i 2128 _ ≠ 0
              dsimp only
              by_cases e2 : (hsX a b + i') % 65536 = (hsX a b + i) % 65536
              · rw [e2, wi_at]
                decide
              · rw [wi_ne (fun q => e2 q.2)]
                exact (hpre i' (by
                  have : i' ≠ i := fun q => e2 (by rw [q])
                  omega)).1
          · obtain ⟨j, j1, j2⟩ := q3 x hx
            have hne : ∀ i', i' ≤ j → (hsX x.1 x.2 + i') % 65536 ≠ (hsX a b + i) % 65536 := fun i' hi' q => by
              have := j2 i' hi'
              rw [q] at this
              exact this z
            refine ⟨j, ?_, fun i' hi' => ?_⟩
            · have := hne j (Nat.le_refl _)
              rw [wl_l, if_neg (fun q => this q.2), wl_l, if_neg (fun q => this q.2), wl_l, if_neg (fun q => this q.2)]
              exact j1
            · show (σ.wi 2128 ((hsX a b + i) % 65536) (1 : Int32)).i 2128 _ ≠ 0
              rw [wi_ne (fun q => hne i' hi' q.2)]
              exact j2 i' hi'
      · rw [et] at z y
        rw [cmpE] at y
        first
          | (exfalso
             have : i = n := by omega
             rw [this] at z
             exact z hfree)
          | (rw [nx_eq hp, show ((hsX a b + i) % 65536 + 1) % 65536 = (hsX a b + (i + 1)) % 65536 by omega]
             refine ih (i + 1) (by
               have : i ≠ n := fun q => by
                 rw [q] at z
                 exact z hfree
               omega) (by
               have : i ≠ n := fun q => by
                 rw [q] at z
                 exact z hfree
               omega) (fun j hj => ?_)
             by_cases e : j = i
             · rw [e]
               exact ⟨z, fun q => y (Prod.mk.inj q).1⟩
             · exact hpre j (by omega))
      · rw [et] at z y w
        rw [cmpE] at w
        first
          | (exfalso
             have : i = n := by omega
             rw [this] at z
             exact z hfree)
          | (rw [nx_eq hp, show ((hsX a b + i) % 65536 + 1) % 65536 = (hsX a b + (i + 1)) % 65536 by omega]
             refine ih (i + 1) (by
               have : i ≠ n := fun q => by
                 rw [q] at z
                 exact z hfree
               omega) (by
               have : i ≠ n := fun q => by
                 rw [q] at z
                 exact z hfree
               omega) (fun j hj => ?_)
             by_cases e : j = i
             · rw [e]
               exact ⟨z, fun q => w (Prod.mk.inj q).2⟩
             · exact hpre j (by omega))
      · rw [et] at z y w
        rw [cmpE] at y w
        have := (q2 _ hp z).2
        rw [y, w] at this
        exact h0 this
  refine S_X23_isNew_0 F ?_
  rw [hs_eq]
  have := loop n 0 (by omega) (Nat.zero_le _) (fun j hj => by omega)
  rw [show (hsX a b + 0) % 65536 = hsX a b by omega] at this
  exact this
theorem rf_nothingIs (F : FX ΦR σ.sh σ.r) (h : ∀ τ, HsF σ τ → HsS τ [] → K (.inl none) τ) : B_X23_nothingIs_0 Z (d + 1) σ K := by
  have loop : ∀ m i τ, 65536 - i = m → i ≤ 65536 → HsF σ τ → (∀ p, p < i → τ.i 2128 p = 0) → B_X23_nothingIs_2 Z (d + 1) τ (Int32.ofNat i) K := by
    intro m
    induction m with
    | zero =>
      intro i τ hm hi g hz
      have e : i = 65536 := by omega
      subst e
      refine S_X23_nothingIs_2 (g.fx F) ⟨fun _ => h τ g ⟨[], Nat.le_refl _, fun p hp z => absurd (hz p hp) z, fun x hx => by cases hx⟩, fun z => absurd (by decide) z⟩
    | succ m ih =>
      intro i τ hm hi g hz
      refine S_X23_nothingIs_2 (g.fx F) ⟨fun z => ?_, fun _ => ⟨ib_oN (by omega) (by decide), ?_⟩⟩
      · exfalso
        rw [show (65536 : Int32) = Int32.ofNat 65536 from rfl, oN_le (by omega) (by omega)] at z
        omega
      · rw [oN_t (by omega), oN_1, show vp_nar .boolean (0 : Int32) = 0 by decide]
        refine ih (i + 1) _ (by omega) (by omega) (g.tr ⟨rfl, rfl, fun a ha => wi_row ha, fun _ _ _ => rfl⟩) (fun p hp => ?_)
        by_cases e : p = i
        · rw [e, wi_at]
        · rw [wi_ne (by omega)]
          exact hz p (by omega)
  exact S_X23_nothingIs_0 F (loop 65536 0 σ (by omega) (Nat.zero_le _) (HsF.refl σ) (fun p hp => by omega))
end HASH

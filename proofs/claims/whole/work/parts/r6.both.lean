/-! THE LAW OVER BOTH: a call each (printed by lawgen2.py) -/
theorem is_C {σ : Sg} (F : FX ΦC σ.sh σ.r) : is13 (conc σ) := ⟨sg_o σ 0 13, conc_get (F.s (a := 0) (s := Sh.obj 13) (by decide +kernel))⟩
theorem th_R {σ : Sg} (F : FX ΦR σ.sh σ.r) : thrR (σ.i 0 110) (conc σ) := ⟨sg_o σ 0 24, conc_get (F.s (a := 0) (s := Sh.obj 24) (by decide +kernel)), by
  unfold sg_o
  rw [List.getElem?_mapIdx, show (sg_ft 24)[110]? = some 0 from rfl]
  rfl⟩
theorem is_R {σ : Sg} (F : FX ΦR σ.sh σ.r) : is24 (conc σ) := ⟨sg_o σ 0 24, conc_get (F.s (a := 0) (s := Sh.obj 24) (by decide +kernel))⟩
section BOTH
variable {G : ab_G} {T : ab_GT} {d : Nat} {M : ab_MX} {lv : ab_L} {σ : Sg} {A : Sg → Prop} {e1 e2 : String}
theorem lcA {r : An} (h : ∀ K : kS, CAns K A e1 e2 r → ab_fin G T d M 0 lv [] (conc σ) (lf ΦC K)) : ab_fin G T d M 0 lv [] (conc σ) (AnC e1 e2 (fun h => ∃ τ, h = conc τ ∧ A τ) r) := by
  rcases r with th | v
  · refine (h (fun r0 τ => A τ ∧ ∃ x, r0 = .inr (if th = 1 then e1 else e2, x)) (fun τ x a => ⟨a, x, rfl⟩)).mono (fun r0 h' q => ?_)
    obtain ⟨τ, e, -, a, b⟩ := q
    exact ⟨⟨τ, e, a⟩, b⟩
  · refine (h (fun r0 τ => A τ ∧ r0 = .inl (some (.int v))) (fun τ a => ⟨a, rfl⟩)).mono (fun r0 h' q => ?_)
    obtain ⟨τ, e, -, a, b⟩ := q
    exact ⟨⟨τ, e, a⟩, b⟩
theorem lcL {r : Nat ⊕ Int64} (h : ∀ K : kS, CAnL K A e1 r → ab_fin G T d M 0 lv [] (conc σ) (lf ΦC K)) : ab_fin G T d M 0 lv [] (conc σ) (AnCL e1 (fun h => ∃ τ, h = conc τ ∧ A τ) r) := by
  rcases r with th | v
  · refine (h (fun r0 τ => A τ ∧ ∃ x, r0 = .inr (e1, x)) (fun τ x a => ⟨a, x, rfl⟩)).mono (fun r0 h' q => ?_)
    obtain ⟨τ, e, -, a, b⟩ := q
    exact ⟨⟨τ, e, a⟩, b⟩
  · refine (h (fun r0 τ => A τ ∧ r0 = .inl (some (.long v))) (fun τ a => ⟨a, rfl⟩)).mono (fun r0 h' q => ?_)
    obtain ⟨τ, e, -, a, b⟩ := q
    exact ⟨⟨τ, e, a⟩, b⟩
theorem lrA {r : An} (h : ∀ K : kS, RAns K A r → ab_fin G T d M 0 lv [] (conc σ) (lf ΦR K)) : ab_fin G T d M 0 lv [] (conc σ) (AnR (fun h => ∃ τ, h = conc τ ∧ A τ) r) := by
  refine (h (fun r0 τ => A τ ∧ r0 = .inl (some (.int (anV r))) ∧ τ.i 0 110 = anT r) ?_).mono (fun r0 h' q => ?_)
  · rcases r with th | v
    · exact fun τ a e => ⟨a, rfl, e⟩
    · exact fun τ a e => ⟨a, rfl, e⟩
  · obtain ⟨τ, rfl, F, a, b, c⟩ := q
    refine ⟨⟨τ, rfl, a⟩, b, ?_⟩
    rw [← c]
    exact th_R F
theorem lrL {r : Nat ⊕ Int64} (h : ∀ K : kS, RAnL K A r → ab_fin G T d M 0 lv [] (conc σ) (lf ΦR K)) : ab_fin G T d M 0 lv [] (conc σ) (AnRL (fun h => ∃ τ, h = conc τ ∧ A τ) r) := by
  rcases r with th | v
  · refine (h (fun r0 τ => A τ ∧ r0 = .inl (some (.long 0)) ∧ τ.i 0 110 = Int32.ofNat th) (fun τ a e => ⟨a, rfl, e⟩)).mono (fun r0 h' q => ?_)
    obtain ⟨τ, rfl, F, a, b, c⟩ := q
    refine ⟨⟨τ, rfl, a⟩, b, ?_⟩
    show thrR (Int32.ofNat th) _
    rw [← c]
    exact th_R F
  · refine (h (fun r0 τ => A τ ∧ r0 = .inl (some (.long v)) ∧ τ.i 0 110 = 0) (fun τ a e => ⟨a, rfl, e⟩)).mono (fun r0 h' q => ?_)
    obtain ⟨τ, rfl, F, a, b, c⟩ := q
    refine ⟨⟨τ, rfl, a⟩, b, ?_⟩
    show thrR 0 _
    rw [← c]
    exact th_R F
theorem lcV {Φ : Fix} {v : Option Value} (h : ∀ K : kS, (∀ τ, A τ → K (.inl v) τ) → ab_fin G T d M 0 lv [] (conc σ) (lf Φ K)) : ab_fin G T d M 0 lv [] (conc σ) (fun r0 h => (∃ τ, h = conc τ ∧ A τ) ∧ r0 = .inl v) := by
  refine (h (fun r0 τ => A τ ∧ r0 = .inl v) (fun τ a => ⟨a, rfl⟩)).mono (fun r0 h' q => ?_)
  obtain ⟨τ, e, -, a, b⟩ := q
  exact ⟨⟨τ, e, a⟩, b⟩
end BOTH
/-- BOTH between calls, in one heap -/
def LwS (i : Nat) (h : List ab_E) : Prop := ∃ W pg t n wy ch fuel rs rn res σC σR o fC fR, Two h (conc σC) (conc σR) o fC fR ∧ ClA W pg t n wy ch fuel rs rn res i σC ∧ RfA W pg t n wy ch fuel rs rn res i σR ∧ PuW W ∧ (pg.isNil = false → PgW W pg ∧ sH pg ≤ 49)
section ANS
variable {W : Wld} {pg : Ast} {t : Nat → Int32} {n wy ch fuel rs : Nat} {rn : Option (Rs × Es)} {res : List Nat} {q : Nat} {σ : Sg} {v a b c k w i m th : Nat} {x y z x1 x2 : Int32}
theorem en_th (h : enA n x = .inl th) : th = 1 := by
  unfold enA at h
  split at h <;> cases h
  rfl
theorem co_th (h : coA W n rs res x = .inl th) : th = 1 := by
  unfold coA at h
  split at h
  · cases h
  split at h
  · cases h
  split at h
  · cases h
  split at h
  · cases h
  split at h
  · cases h
  split at h
  · cases h
  split at h
  · cases h
  cases h
  rfl
theorem to_th (h : toA rn x = .inl th) : th = 1 := by
  unfold toA at h
  split at h
  · cases h
  split at h
  · cases h
  split at h
  · cases h
  split at h
  · cases h
  split at h
  · cases h
  split at h
  · cases h
  split at h
  · cases h
  cases h
  rfl
theorem sh_th (h : shA rn x = .inl th) : th = 1 := by
  unfold shA at h
  split at h <;> cases h
  rfl
theorem fe_th (h : feA n = .inl th) : th = 1 := by
  unfold feA at h
  split at h <;> cases h
  rfl
theorem se_th (h : seA wy ch fuel x y = .inl th) : th = 1 := by
  unfold seA at h
  split at h
  · cases h
  split at h
  · cases h
  split at h
  · cases h
  cases h
  rfl
theorem ra_th (h : raA rn = .inl th) : th = 1 := by
  unfold raA at h
  split at h <;> cases h
  rfl
theorem wo_th (h : woA res x = .inl th) : th = 1 := by
  unfold woA at h
  split at h <;> cases h
  rfl
theorem be_th (h : beA W x y = .inl th) : th = 1 := by
  unfold beA at h
  split at h <;> cases h
  rfl
theorem dr_th (h : drA W x = .inl th) : th = 1 := by
  unfold drA at h
  split at h <;> cases h
  rfl
theorem ru_th (h : ruA W pg wy ch fuel = .inl th) : th = 1 := by
  unfold ruA at h
  split at h <;> cases h
  rfl
theorem ro_th (h : roA W x y z = .inl th) : th = 1 ∨ th = 2 := by
  unfold roA at h
  split at h
  · cases h
    exact Or.inl rfl
  split at h
  · cases h
    exact Or.inr rfl
  split at h <;> cases h
theorem ne_th (h : neA W wy x y z x1 x2 = .inl th) : th = 1 ∨ th = 2 := by
  unfold neA at h
  split at h
  · cases h
    exact Or.inl rfl
  split at h
  · cases h
    exact Or.inl rfl
  split at h <;> cases h
  exact Or.inr rfl
theorem ca_th (h : caA W wy x y = .inl th) : th = 1 ∨ th = 2 := by
  unfold caA at h
  split at h
  · cases h
    exact Or.inl rfl
  split at h
  · cases h
  split at h
  · cases h
  split at h
  · cases h
  split at h
  · cases h
  split at h
  · cases h
  split at h
  · cases h
  split at h
  · cases h
  split at h
  · cases h
  split at h
  · cases h
  cases h
  exact Or.inr rfl
theorem rn_le (h : RfA W pg t n wy ch fuel rs rn res q σ) : (rnE rn).2.2.2.1 ≤ 1000000 := by
  obtain ⟨m, lst, cap, m7, lst7, cap7, R, h1, h2, h3, h4, h5, h6, h7, -⟩ := h
  rcases rn with _ | ⟨r, S⟩
  · exact Nat.zero_le _
  · have := h7.2.2.2.2.2.1
    show S.2.2.2.1 ≤ 1000000
    omega
theorem pr_b (h : RfA W pg t n wy ch fuel rs rn res q σ) : (prR t n W).1 ≤ 100000 := by
  obtain ⟨m, lst, cap, m7, lst7, cap7, R, -⟩ := h
  have := pr_le R
  omega
theorem dr_pu (h : PuW W) (x : Int32) : PuW (drO W x) := by
  unfold drO
  split
  · exact h.dr _
  · exact h
theorem dr_pg (h : PgW W pg) (x : Int32) : PgW (drO W x) pg := by
  unfold drO
  split
  · exact pg_grow ⟨[], (List.append_nil _).symm⟩ ⟨[], (List.append_nil _).symm⟩ ⟨[], (List.append_nil _).symm⟩ h
  · exact h
end ANS
section CALLS
variable {z4 z5 z6 : Value} {xs : Nat → Int32} {L : Nat} {h : List ab_E} {Q : ab_RX → List ab_E → Prop}
theorem st_feed (hL : L ≤ 3072) (hG : ab_pure (hb_Gz (some z4, some z5, some z6) (some (0, L, fun i => .int (xs i))))) (hZ : ZK ((some z4, some z5, some z6), (0, L, fun i => .int (xs i)))) {i : Nat} (hi : 6 * i + 6 ≤ L) (S : LwS i h) (go : ∀ h', LwS (i + 1) h' → ab_fin (hb_Gz (some z4, some z5, some z6) (some (0, L, fun i => .int (xs i)))) hb_GT 2046 (mL_law, []) 1090 [(4, .int (Int32.ofNat (6 * i))), (3, .ref 3467), (2, .ref 102), (1, .ref 0), (0, .retAddr 9)] [] h' Q) : ab_fin (hb_Gz (some z4, some z5, some z6) (some (0, L, fun i => .int (xs i)))) hb_GT 2046 (mL_law, []) 124 [(4, .int (Int32.ofNat (6 * i))), (3, .ref 3467), (2, .ref 102), (1, .ref 0), (0, .retAddr 9)] [] h Q := by
  obtain ⟨W, pg, t, n, wy, ch, fuel, rs, rn, res, σC, σR, o, fC, fR, T2, hc, hr, hW, hp⟩ := S
  refine lw_feed hL hG hi T2 (is_C hc.fx) (is_R hr.fx) (r := feA n) (fun th e => fe_th e) (lcA (A := ClA W pg (feT t n (xs (6 * i + 1)) (xs (6 * i + 2)) (xs (6 * i + 3)) (xs (6 * i + 4)) (xs (6 * i + 5))) (feN n) wy ch fuel rs rn res (i + 1)) (fun K q => cc_feed (Z := ((some z4, some z5, some z6), (0, L, fun i => .int (xs i)))) (d := 2043) (by decide) hc q)) (lrA (A := RfA W pg (feT t n (xs (6 * i + 1)) (xs (6 * i + 2)) (xs (6 * i + 3)) (xs (6 * i + 4)) (xs (6 * i + 5))) (feN n) wy ch fuel rs rn res (i + 1)) (fun K q => rc_feed (Z := ((some z4, some z5, some z6), (0, L, fun i => .int (xs i)))) (d := 2043)  hr q)) (fun h' hc' hr' o' fC' fR' T3 p1 p2 => ?_)
  obtain ⟨τ, rfl, a⟩ := p1
  obtain ⟨υ, rfl, b⟩ := p2
  exact go _ ⟨_, _, _, _, _, _, _, _, _, _, τ, υ, o', fC', fR', T3, a, b, hW, hp⟩
theorem st_end (hL : L ≤ 3072) (hG : ab_pure (hb_Gz (some z4, some z5, some z6) (some (0, L, fun i => .int (xs i))))) (hZ : ZK ((some z4, some z5, some z6), (0, L, fun i => .int (xs i)))) {i : Nat} (hi : 6 * i + 6 ≤ L) (S : LwS i h) (go : ∀ h', LwS (i + 1) h' → ab_fin (hb_Gz (some z4, some z5, some z6) (some (0, L, fun i => .int (xs i)))) hb_GT 2046 (mL_law, []) 1090 [(4, .int (Int32.ofNat (6 * i))), (3, .ref 3467), (2, .ref 102), (1, .ref 0), (0, .retAddr 9)] [] h' Q) : ab_fin (hb_Gz (some z4, some z5, some z6) (some (0, L, fun i => .int (xs i)))) hb_GT 2046 (mL_law, []) 228 [(4, .int (Int32.ofNat (6 * i))), (3, .ref 3467), (2, .ref 102), (1, .ref 0), (0, .retAddr 9)] [] h Q := by
  obtain ⟨W, pg, t, n, wy, ch, fuel, rs, rn, res, σC, σR, o, fC, fR, T2, hc, hr, hW, hp⟩ := S
  refine lw_end hL hG hi T2 (is_C hc.fx) (is_R hr.fx) (r := enA n (xs (6 * i + 1))) (fun th e => en_th e) (lcA (A := ClA W pg t (enN n (xs (6 * i + 1))) wy ch fuel rs rn res (i + 1)) (fun K q => cc_end (Z := ((some z4, some z5, some z6), (0, L, fun i => .int (xs i)))) (d := 2043) (by decide) hc q)) (lrA (A := RfA W pg t (enN n (xs (6 * i + 1))) wy ch fuel rs rn res i) (fun K q => rc_end (Z := ((some z4, some z5, some z6), (0, L, fun i => .int (xs i)))) (d := 2043)  hr q)) (fun h' hc' hr' o' fC' fR' T3 p1 p2 => ?_)
  obtain ⟨τ, rfl, a⟩ := p1
  obtain ⟨υ, rfl, b⟩ := p2
  exact go _ ⟨_, _, _, _, _, _, _, _, _, _, τ, υ, o', fC', fR', T3, a, b.up, hW, hp⟩
theorem st_set (hL : L ≤ 3072) (hG : ab_pure (hb_Gz (some z4, some z5, some z6) (some (0, L, fun i => .int (xs i))))) (hZ : ZK ((some z4, some z5, some z6), (0, L, fun i => .int (xs i)))) {i : Nat} (hi : 6 * i + 6 ≤ L) (S : LwS i h) (go : ∀ h', LwS (i + 1) h' → ab_fin (hb_Gz (some z4, some z5, some z6) (some (0, L, fun i => .int (xs i)))) hb_GT 2046 (mL_law, []) 1090 [(4, .int (Int32.ofNat (6 * i))), (3, .ref 3467), (2, .ref 102), (1, .ref 0), (0, .retAddr 9)] [] h' Q) : ab_fin (hb_Gz (some z4, some z5, some z6) (some (0, L, fun i => .int (xs i)))) hb_GT 2046 (mL_law, []) 384 [(4, .int (Int32.ofNat (6 * i))), (3, .ref 3467), (2, .ref 102), (1, .ref 0), (0, .retAddr 9)] [] h Q := by
  obtain ⟨W, pg, t, n, wy, ch, fuel, rs, rn, res, σC, σR, o, fC, fR, T2, hc, hr, hW, hp⟩ := S
  refine lw_set hL hG hi T2 (is_C hc.fx) (is_R hr.fx) (r := seA wy ch fuel (xs (6 * i + 1)) (xs (6 * i + 2))) (fun th e => se_th e) (lcA (A := ClA W pg t n (seW wy (xs (6 * i + 1)) (xs (6 * i + 2))) (seC ch (xs (6 * i + 1)) (xs (6 * i + 2))) (seF fuel (xs (6 * i + 1)) (xs (6 * i + 2))) rs rn res (i + 1)) (fun K q => cc_set (Z := ((some z4, some z5, some z6), (0, L, fun i => .int (xs i)))) (d := 2043) (by decide) (by omega) hc q)) (lrA (A := RfA W pg t n (seW wy (xs (6 * i + 1)) (xs (6 * i + 2))) (seC ch (xs (6 * i + 1)) (xs (6 * i + 2))) (seF fuel (xs (6 * i + 1)) (xs (6 * i + 2))) rs rn res i) (fun K q => rc_set (Z := ((some z4, some z5, some z6), (0, L, fun i => .int (xs i)))) (d := 2043)  hr q)) (fun h' hc' hr' o' fC' fR' T3 p1 p2 => ?_)
  obtain ⟨τ, rfl, a⟩ := p1
  obtain ⟨υ, rfl, b⟩ := p2
  exact go _ ⟨_, _, _, _, _, _, _, _, _, _, τ, υ, o', fC', fR', T3, a, b.up, hW, hp⟩
theorem st_count (hL : L ≤ 3072) (hG : ab_pure (hb_Gz (some z4, some z5, some z6) (some (0, L, fun i => .int (xs i))))) (hZ : ZK ((some z4, some z5, some z6), (0, L, fun i => .int (xs i)))) {i : Nat} (hi : 6 * i + 6 ≤ L) (S : LwS i h) (go : ∀ h', LwS (i + 1) h' → ab_fin (hb_Gz (some z4, some z5, some z6) (some (0, L, fun i => .int (xs i)))) hb_GT 2046 (mL_law, []) 1090 [(4, .int (Int32.ofNat (6 * i))), (3, .ref 3467), (2, .ref 102), (1, .ref 0), (0, .retAddr 9)] [] h' Q) : ab_fin (hb_Gz (some z4, some z5, some z6) (some (0, L, fun i => .int (xs i)))) hb_GT 2046 (mL_law, []) 452 [(4, .int (Int32.ofNat (6 * i))), (3, .ref 3467), (2, .ref 102), (1, .ref 0), (0, .retAddr 9)] [] h Q := by
  obtain ⟨W, pg, t, n, wy, ch, fuel, rs, rn, res, σC, σR, o, fC, fR, T2, hc, hr, hW, hp⟩ := S
  refine lw_count hL hG hi T2 (is_C hc.fx) (is_R hr.fx) (r := coA W n rs res (xs (6 * i + 1))) (fun th e => co_th e) (lcA (A := ClA W pg t n wy ch fuel rs rn res (i + 1)) (fun K q => cc_count (Z := ((some z4, some z5, some z6), (0, L, fun i => .int (xs i)))) (d := 2043) (by decide) hc q)) (lrA (A := RfA W pg t n wy ch fuel rs rn res i) (fun K q => rc_count (Z := ((some z4, some z5, some z6), (0, L, fun i => .int (xs i)))) (d := 2043)  hr q)) (fun h' hc' hr' o' fC' fR' T3 p1 p2 => ?_)
  obtain ⟨τ, rfl, a⟩ := p1
  obtain ⟨υ, rfl, b⟩ := p2
  exact go _ ⟨_, _, _, _, _, _, _, _, _, _, τ, υ, o', fC', fR', T3, a, b.up, hW, hp⟩
theorem st_row (hL : L ≤ 3072) (hG : ab_pure (hb_Gz (some z4, some z5, some z6) (some (0, L, fun i => .int (xs i))))) (hZ : ZK ((some z4, some z5, some z6), (0, L, fun i => .int (xs i)))) {i : Nat} (hi : 6 * i + 6 ≤ L) (S : LwS i h) (go : ∀ h', LwS (i + 1) h' → ab_fin (hb_Gz (some z4, some z5, some z6) (some (0, L, fun i => .int (xs i)))) hb_GT 2046 (mL_law, []) 1090 [(4, .int (Int32.ofNat (6 * i))), (3, .ref 3467), (2, .ref 102), (1, .ref 0), (0, .retAddr 9)] [] h' Q) : ab_fin (hb_Gz (some z4, some z5, some z6) (some (0, L, fun i => .int (xs i)))) hb_GT 2046 (mL_law, []) 583 [(4, .int (Int32.ofNat (6 * i))), (3, .ref 3467), (2, .ref 102), (1, .ref 0), (0, .retAddr 9)] [] h Q := by
  obtain ⟨W, pg, t, n, wy, ch, fuel, rs, rn, res, σC, σR, o, fC, fR, T2, hc, hr, hW, hp⟩ := S
  refine lw_row hL hG hi T2 (is_C hc.fx) (is_R hr.fx) (r := roA W (xs (6 * i + 1)) (xs (6 * i + 2)) (xs (6 * i + 3))) (fun th e => ro_th e) (lcA (A := ClA W pg t n wy ch fuel rs rn res (i + 1)) (fun K q => cc_row (Z := ((some z4, some z5, some z6), (0, L, fun i => .int (xs i)))) (d := 2043) (by decide) hc q)) (lrA (A := RfA W pg t n wy ch fuel rs rn res i) (fun K q => rc_row (Z := ((some z4, some z5, some z6), (0, L, fun i => .int (xs i)))) (d := 2043)  hr q)) (fun h' hc' hr' o' fC' fR' T3 p1 p2 => ?_)
  obtain ⟨τ, rfl, a⟩ := p1
  obtain ⟨υ, rfl, b⟩ := p2
  exact go _ ⟨_, _, _, _, _, _, _, _, _, _, τ, υ, o', fC', fR', T3, a, b.up, hW, hp⟩
theorem st_nearer (hL : L ≤ 3072) (hG : ab_pure (hb_Gz (some z4, some z5, some z6) (some (0, L, fun i => .int (xs i))))) (hZ : ZK ((some z4, some z5, some z6), (0, L, fun i => .int (xs i)))) {i : Nat} (hi : 6 * i + 6 ≤ L) (S : LwS i h) (go : ∀ h', LwS (i + 1) h' → ab_fin (hb_Gz (some z4, some z5, some z6) (some (0, L, fun i => .int (xs i)))) hb_GT 2046 (mL_law, []) 1090 [(4, .int (Int32.ofNat (6 * i))), (3, .ref 3467), (2, .ref 102), (1, .ref 0), (0, .retAddr 9)] [] h' Q) : ab_fin (hb_Gz (some z4, some z5, some z6) (some (0, L, fun i => .int (xs i)))) hb_GT 2046 (mL_law, []) 663 [(4, .int (Int32.ofNat (6 * i))), (3, .ref 3467), (2, .ref 102), (1, .ref 0), (0, .retAddr 9)] [] h Q := by
  obtain ⟨W, pg, t, n, wy, ch, fuel, rs, rn, res, σC, σR, o, fC, fR, T2, hc, hr, hW, hp⟩ := S
  refine lw_nearer hL hG hi T2 (is_C hc.fx) (is_R hr.fx) (r := neA W wy (xs (6 * i + 1)) (xs (6 * i + 2)) (xs (6 * i + 3)) (xs (6 * i + 4)) (xs (6 * i + 5))) (fun th e => ne_th e) (lcA (A := ClA W pg t n wy ch fuel rs rn res (i + 1)) (fun K q => cc_nearer (Z := ((some z4, some z5, some z6), (0, L, fun i => .int (xs i)))) (d := 2043) (by decide) hW hc q)) (lrA (A := RfA W pg t n wy ch fuel rs rn res i) (fun K q => rc_nearer (Z := ((some z4, some z5, some z6), (0, L, fun i => .int (xs i)))) (d := 2045) hW.1.1 (by decide) hr q)) (fun h' hc' hr' o' fC' fR' T3 p1 p2 => ?_)
  obtain ⟨τ, rfl, a⟩ := p1
  obtain ⟨υ, rfl, b⟩ := p2
  exact go _ ⟨_, _, _, _, _, _, _, _, _, _, τ, υ, o', fC', fR', T3, a, b.up, hW, hp⟩
theorem st_call (hL : L ≤ 3072) (hG : ab_pure (hb_Gz (some z4, some z5, some z6) (some (0, L, fun i => .int (xs i))))) (hZ : ZK ((some z4, some z5, some z6), (0, L, fun i => .int (xs i)))) {i : Nat} (hi : 6 * i + 6 ≤ L) (S : LwS i h) (go : ∀ h', LwS (i + 1) h' → ab_fin (hb_Gz (some z4, some z5, some z6) (some (0, L, fun i => .int (xs i)))) hb_GT 2046 (mL_law, []) 1090 [(4, .int (Int32.ofNat (6 * i))), (3, .ref 3467), (2, .ref 102), (1, .ref 0), (0, .retAddr 9)] [] h' Q) : ab_fin (hb_Gz (some z4, some z5, some z6) (some (0, L, fun i => .int (xs i)))) hb_GT 2046 (mL_law, []) 767 [(4, .int (Int32.ofNat (6 * i))), (3, .ref 3467), (2, .ref 102), (1, .ref 0), (0, .retAddr 9)] [] h Q := by
  obtain ⟨W, pg, t, n, wy, ch, fuel, rs, rn, res, σC, σR, o, fC, fR, T2, hc, hr, hW, hp⟩ := S
  refine lw_call hL hG hi T2 (is_C hc.fx) (is_R hr.fx) (r := caA W wy (xs (6 * i + 1)) (xs (6 * i + 2))) (fun th e => ca_th e) (lcA (A := ClA W pg t n wy ch fuel rs rn res (i + 1)) (fun K q => cc_call (Z := ((some z4, some z5, some z6), (0, L, fun i => .int (xs i)))) (d := 2043) (by decide) (by omega) hW hc q)) (lrA (A := RfA W pg t n wy ch fuel rs rn res i) (fun K q => rc_call (Z := ((some z4, some z5, some z6), (0, L, fun i => .int (xs i)))) (d := 2045) hW.1 (by decide) hr q)) (fun h' hc' hr' o' fC' fR' T3 p1 p2 => ?_)
  obtain ⟨τ, rfl, a⟩ := p1
  obtain ⟨υ, rfl, b⟩ := p2
  exact go _ ⟨_, _, _, _, _, _, _, _, _, _, τ, υ, o', fC', fR', T3, a, b.up, hW, hp⟩
theorem st_run (hL : L ≤ 3072) (hG : ab_pure (hb_Gz (some z4, some z5, some z6) (some (0, L, fun i => .int (xs i))))) (hZ : ZK ((some z4, some z5, some z6), (0, L, fun i => .int (xs i)))) {i : Nat} (hi : 6 * i + 6 ≤ L) (S : LwS i h) (go : ∀ h', LwS (i + 1) h' → ab_fin (hb_Gz (some z4, some z5, some z6) (some (0, L, fun i => .int (xs i)))) hb_GT 2046 (mL_law, []) 1090 [(4, .int (Int32.ofNat (6 * i))), (3, .ref 3467), (2, .ref 102), (1, .ref 0), (0, .retAddr 9)] [] h' Q) : ab_fin (hb_Gz (some z4, some z5, some z6) (some (0, L, fun i => .int (xs i)))) hb_GT 2046 (mL_law, []) 835 [(4, .int (Int32.ofNat (6 * i))), (3, .ref 3467), (2, .ref 102), (1, .ref 0), (0, .retAddr 9)] [] h Q := by
  obtain ⟨W, pg, t, n, wy, ch, fuel, rs, rn, res, σC, σR, o, fC, fR, T2, hc, hr, hW, hp⟩ := S
  refine lw_run hL hG hi T2 (is_C hc.fx) (is_R hr.fx) (r := ruA W pg wy ch fuel) (fun th e => ru_th e) (lcA (A := ClA W pg t n wy ch fuel rs (ruN W pg wy ch fuel rn) res (i + 1)) (fun K q => cc_run (Z := ((some z4, some z5, some z6), (0, L, fun i => .int (xs i)))) (d := 2043) (by decide) (by decide) (by omega) hW hp hc q)) (lrA (A := RfA W pg t n wy ch fuel rs (ruN W pg wy ch fuel rn) res i) (fun K q => rc_run (Z := ((some z4, some z5, some z6), (0, L, fun i => .int (xs i)))) (d := 2045) hW.1 (fun e => (hp e).1) (by decide) hr q)) (fun h' hc' hr' o' fC' fR' T3 p1 p2 => ?_)
  obtain ⟨τ, rfl, a⟩ := p1
  obtain ⟨υ, rfl, b⟩ := p2
  exact go _ ⟨_, _, _, _, _, _, _, _, _, _, τ, υ, o', fC', fR', T3, a, b.up, hW, hp⟩
theorem st_told (hL : L ≤ 3072) (hG : ab_pure (hb_Gz (some z4, some z5, some z6) (some (0, L, fun i => .int (xs i))))) (hZ : ZK ((some z4, some z5, some z6), (0, L, fun i => .int (xs i)))) {i : Nat} (hi : 6 * i + 6 ≤ L) (S : LwS i h) (go : ∀ h', LwS (i + 1) h' → ab_fin (hb_Gz (some z4, some z5, some z6) (some (0, L, fun i => .int (xs i)))) hb_GT 2046 (mL_law, []) 1090 [(4, .int (Int32.ofNat (6 * i))), (3, .ref 3467), (2, .ref 102), (1, .ref 0), (0, .retAddr 9)] [] h' Q) : ab_fin (hb_Gz (some z4, some z5, some z6) (some (0, L, fun i => .int (xs i)))) hb_GT 2046 (mL_law, []) 879 [(4, .int (Int32.ofNat (6 * i))), (3, .ref 3467), (2, .ref 102), (1, .ref 0), (0, .retAddr 9)] [] h Q := by
  obtain ⟨W, pg, t, n, wy, ch, fuel, rs, rn, res, σC, σR, o, fC, fR, T2, hc, hr, hW, hp⟩ := S
  refine lw_told hL hG hi T2 (is_C hc.fx) (is_R hr.fx) (r := toA rn (xs (6 * i + 1))) (fun th e => to_th e) (lcA (A := ClA W pg t n wy ch fuel rs rn res (i + 1)) (fun K q => cc_told (Z := ((some z4, some z5, some z6), (0, L, fun i => .int (xs i)))) (d := 2042) (by decide) hc q)) (lrA (A := RfA W pg t n wy ch fuel rs rn res i) (fun K q => rc_told (Z := ((some z4, some z5, some z6), (0, L, fun i => .int (xs i)))) (d := 2043)  hr q)) (fun h' hc' hr' o' fC' fR' T3 p1 p2 => ?_)
  obtain ⟨τ, rfl, a⟩ := p1
  obtain ⟨υ, rfl, b⟩ := p2
  exact go _ ⟨_, _, _, _, _, _, _, _, _, _, τ, υ, o', fC', fR', T3, a, b.up, hW, hp⟩
theorem st_shown (hL : L ≤ 3072) (hG : ab_pure (hb_Gz (some z4, some z5, some z6) (some (0, L, fun i => .int (xs i))))) (hZ : ZK ((some z4, some z5, some z6), (0, L, fun i => .int (xs i)))) {i : Nat} (hi : 6 * i + 6 ≤ L) (S : LwS i h) (go : ∀ h', LwS (i + 1) h' → ab_fin (hb_Gz (some z4, some z5, some z6) (some (0, L, fun i => .int (xs i)))) hb_GT 2046 (mL_law, []) 1090 [(4, .int (Int32.ofNat (6 * i))), (3, .ref 3467), (2, .ref 102), (1, .ref 0), (0, .retAddr 9)] [] h' Q) : ab_fin (hb_Gz (some z4, some z5, some z6) (some (0, L, fun i => .int (xs i)))) hb_GT 2046 (mL_law, []) 935 [(4, .int (Int32.ofNat (6 * i))), (3, .ref 3467), (2, .ref 102), (1, .ref 0), (0, .retAddr 9)] [] h Q := by
  obtain ⟨W, pg, t, n, wy, ch, fuel, rs, rn, res, σC, σR, o, fC, fR, T2, hc, hr, hW, hp⟩ := S
  refine lw_shown hL hG hi T2 (is_C hc.fx) (is_R hr.fx) (r := shA rn (xs (6 * i + 1))) (fun th e => sh_th e) (lcA (A := ClA W pg t n wy ch fuel rs rn res (i + 1)) (fun K q => cc_shown (Z := ((some z4, some z5, some z6), (0, L, fun i => .int (xs i)))) (d := 2043) (by decide) hc q)) (lrA (A := RfA W pg t n wy ch fuel rs rn res i) (fun K q => rc_shown (Z := ((some z4, some z5, some z6), (0, L, fun i => .int (xs i)))) (d := 2043)  hr q)) (fun h' hc' hr' o' fC' fR' T3 p1 p2 => ?_)
  obtain ⟨τ, rfl, a⟩ := p1
  obtain ⟨υ, rfl, b⟩ := p2
  exact go _ ⟨_, _, _, _, _, _, _, _, _, _, τ, υ, o', fC', fR', T3, a, b.up, hW, hp⟩
theorem st_ran (hL : L ≤ 3072) (hG : ab_pure (hb_Gz (some z4, some z5, some z6) (some (0, L, fun i => .int (xs i))))) (hZ : ZK ((some z4, some z5, some z6), (0, L, fun i => .int (xs i)))) {i : Nat} (hi : 6 * i + 6 ≤ L) (S : LwS i h) (go : ∀ h', LwS (i + 1) h' → ab_fin (hb_Gz (some z4, some z5, some z6) (some (0, L, fun i => .int (xs i)))) hb_GT 2046 (mL_law, []) 1090 [(4, .int (Int32.ofNat (6 * i))), (3, .ref 3467), (2, .ref 102), (1, .ref 0), (0, .retAddr 9)] [] h' Q) : ab_fin (hb_Gz (some z4, some z5, some z6) (some (0, L, fun i => .int (xs i)))) hb_GT 2046 (mL_law, []) 991 [(4, .int (Int32.ofNat (6 * i))), (3, .ref 3467), (2, .ref 102), (1, .ref 0), (0, .retAddr 9)] [] h Q := by
  obtain ⟨W, pg, t, n, wy, ch, fuel, rs, rn, res, σC, σR, o, fC, fR, T2, hc, hr, hW, hp⟩ := S
  refine lw_ran hL hG hi T2 (is_C hc.fx) (is_R hr.fx) (r := raA rn) (fun th e => ra_th e) (lcA (A := ClA W pg t n wy ch fuel rs rn (raR rn res) (i + 1)) (fun K q => cc_ran (Z := ((some z4, some z5, some z6), (0, L, fun i => .int (xs i)))) (d := 2043) (by decide) (rn_le hr) hc q)) (lrA (A := RfA W pg t n wy ch fuel rs rn (raR rn res) i) (fun K q => rc_ran (Z := ((some z4, some z5, some z6), (0, L, fun i => .int (xs i)))) (d := 2043)  hr q)) (fun h' hc' hr' o' fC' fR' T3 p1 p2 => ?_)
  obtain ⟨τ, rfl, a⟩ := p1
  obtain ⟨υ, rfl, b⟩ := p2
  exact go _ ⟨_, _, _, _, _, _, _, _, _, _, τ, υ, o', fC', fR', T3, a, b.up, hW, hp⟩
theorem st_word (hL : L ≤ 3072) (hG : ab_pure (hb_Gz (some z4, some z5, some z6) (some (0, L, fun i => .int (xs i))))) (hZ : ZK ((some z4, some z5, some z6), (0, L, fun i => .int (xs i)))) {i : Nat} (hi : 6 * i + 6 ≤ L) (S : LwS i h) (go : ∀ h', LwS (i + 1) h' → ab_fin (hb_Gz (some z4, some z5, some z6) (some (0, L, fun i => .int (xs i)))) hb_GT 2046 (mL_law, []) 1090 [(4, .int (Int32.ofNat (6 * i))), (3, .ref 3467), (2, .ref 102), (1, .ref 0), (0, .retAddr 9)] [] h' Q) : ab_fin (hb_Gz (some z4, some z5, some z6) (some (0, L, fun i => .int (xs i)))) hb_GT 2046 (mL_law, []) 1035 [(4, .int (Int32.ofNat (6 * i))), (3, .ref 3467), (2, .ref 102), (1, .ref 0), (0, .retAddr 9)] [] h Q := by
  obtain ⟨W, pg, t, n, wy, ch, fuel, rs, rn, res, σC, σR, o, fC, fR, T2, hc, hr, hW, hp⟩ := S
  refine lw_word hL hG hi T2 (is_C hc.fx) (is_R hr.fx) (r := woA res (xs (6 * i + 1))) (fun th e => wo_th e) (lcL (A := ClA W pg t n wy ch fuel rs rn res (i + 1)) (fun K q => cc_word (Z := ((some z4, some z5, some z6), (0, L, fun i => .int (xs i)))) (d := 2043) (by decide) hc q)) (lrL (A := RfA W pg t n wy ch fuel rs rn res i) (fun K q => rc_word (Z := ((some z4, some z5, some z6), (0, L, fun i => .int (xs i)))) (d := 2043)  hr q)) (fun h' hc' hr' o' fC' fR' T3 p1 p2 => ?_)
  obtain ⟨τ, rfl, a⟩ := p1
  obtain ⟨υ, rfl, b⟩ := p2
  exact go _ ⟨_, _, _, _, _, _, _, _, _, _, τ, υ, o', fC', fR', T3, a, b.up, hW, hp⟩
theorem st_drop (hL : L ≤ 3072) (hG : ab_pure (hb_Gz (some z4, some z5, some z6) (some (0, L, fun i => .int (xs i))))) (hZ : ZK ((some z4, some z5, some z6), (0, L, fun i => .int (xs i)))) {i : Nat} (hi : 6 * i + 6 ≤ L) (S : LwS i h) (go : ∀ h', LwS (i + 1) h' → ab_fin (hb_Gz (some z4, some z5, some z6) (some (0, L, fun i => .int (xs i)))) hb_GT 2046 (mL_law, []) 1090 [(4, .int (Int32.ofNat (6 * i))), (3, .ref 3467), (2, .ref 102), (1, .ref 0), (0, .retAddr 9)] [] h' Q) : ab_fin (hb_Gz (some z4, some z5, some z6) (some (0, L, fun i => .int (xs i)))) hb_GT 2046 (mL_law, []) 321 [(4, .int (Int32.ofNat (6 * i))), (3, .ref 3467), (2, .ref 102), (1, .ref 0), (0, .retAddr 9)] [] h Q := by
  obtain ⟨W, pg, t, n, wy, ch, fuel, rs, rn, res, σC, σR, o, fC, fR, T2, hc, hr, hW, hp⟩ := S
  rcases hd : drA W (xs (6 * i + 1)) with th | b
  · refine lw_drop hL hG hi T2 (is_C hc.fx) (is_R hr.fx) (r := .inl th) (fun th' e => ?_) (fun v e => by cases e) (lcA (A := ClA (drO W (xs (6 * i + 1))) pg t n wy ch fuel rs rn res (i + 1)) (fun K q => cc_drop (Z := ((some z4, some z5, some z6), (0, L, fun i => .int (xs i)))) (d := 2043) (by decide) (by omega) hW hc (by rw [hd]; exact q))) (lrA (A := RfA (drO W (xs (6 * i + 1))) pg t n wy ch fuel rs rn res i) (fun K q => rc_drop (Z := ((some z4, some z5, some z6), (0, L, fun i => .int (xs i)))) (d := 2045) hW.1 (by decide) hr (by rw [hd]; exact q))) (fun h' hc' hr' o' fC' fR' T3 p1 p2 => ?_)
    · cases e
      exact dr_th hd
    · obtain ⟨τ, rfl, a⟩ := p1
      obtain ⟨υ, rfl, b⟩ := p2
      exact go _ ⟨_, _, _, _, _, _, _, _, _, _, τ, υ, o', fC', fR', T3, a, b.up, dr_pu hW _, fun e => ⟨dr_pg (hp e).1 _, (hp e).2⟩⟩
  · refine lw_drop hL hG hi T2 (is_C hc.fx) (is_R hr.fx) (r := .inr (if b = true then 1 else 0)) (fun th' e => by cases e) (fun v e => ?_) (lcA (A := ClA (drO W (xs (6 * i + 1))) pg t n wy ch fuel rs rn res (i + 1)) (fun K q => cc_drop (Z := ((some z4, some z5, some z6), (0, L, fun i => .int (xs i)))) (d := 2043) (by decide) (by omega) hW hc (by rw [hd]; exact q))) (lrA (A := RfA (drO W (xs (6 * i + 1))) pg t n wy ch fuel rs rn res i) (fun K q => rc_drop (Z := ((some z4, some z5, some z6), (0, L, fun i => .int (xs i)))) (d := 2045) hW.1 (by decide) hr (by rw [hd]; exact q))) (fun h' hc' hr' o' fC' fR' T3 p1 p2 => ?_)
    · cases e
      cases b
      · exact Or.inl rfl
      · exact Or.inr rfl
    · obtain ⟨τ, rfl, a⟩ := p1
      obtain ⟨υ, rfl, b⟩ := p2
      exact go _ ⟨_, _, _, _, _, _, _, _, _, _, τ, υ, o', fC', fR', T3, a, b.up, dr_pu hW _, fun e => ⟨dr_pg (hp e).1 _, (hp e).2⟩⟩
theorem st_below (hL : L ≤ 3072) (hG : ab_pure (hb_Gz (some z4, some z5, some z6) (some (0, L, fun i => .int (xs i))))) (hZ : ZK ((some z4, some z5, some z6), (0, L, fun i => .int (xs i)))) {i : Nat} (hi : 6 * i + 6 ≤ L) (S : LwS i h) (go : ∀ h', LwS (i + 1) h' → ab_fin (hb_Gz (some z4, some z5, some z6) (some (0, L, fun i => .int (xs i)))) hb_GT 2046 (mL_law, []) 1090 [(4, .int (Int32.ofNat (6 * i))), (3, .ref 3467), (2, .ref 102), (1, .ref 0), (0, .retAddr 9)] [] h' Q) : ab_fin (hb_Gz (some z4, some z5, some z6) (some (0, L, fun i => .int (xs i)))) hb_GT 2046 (mL_law, []) 508 [(4, .int (Int32.ofNat (6 * i))), (3, .ref 3467), (2, .ref 102), (1, .ref 0), (0, .retAddr 9)] [] h Q := by
  obtain ⟨W, pg, t, n, wy, ch, fuel, rs, rn, res, σC, σR, o, fC, fR, T2, hc, hr, hW, hp⟩ := S
  rcases hd : beA W (xs (6 * i + 1)) (xs (6 * i + 2)) with th | b
  · refine lw_below hL hG hi T2 (is_C hc.fx) (is_R hr.fx) (r := .inl th) (fun th' e => ?_) (fun v e => by cases e) (lcA (A := ClA W pg t n wy ch fuel rs rn res (i + 1)) (fun K q => cc_below (Z := ((some z4, some z5, some z6), (0, L, fun i => .int (xs i)))) (d := 2043) (by decide) hW.2.2.2.2 hc (by rw [hd]; exact q))) (lrA (A := RfA W pg t n wy ch fuel rs rn res i) (fun K q => rc_below (Z := ((some z4, some z5, some z6), (0, L, fun i => .int (xs i)))) (d := 2043)  hr (by rw [hd]; exact q))) (fun h' hc' hr' o' fC' fR' T3 p1 p2 => ?_)
    · cases e
      exact be_th hd
    · obtain ⟨τ, rfl, a⟩ := p1
      obtain ⟨υ, rfl, b⟩ := p2
      exact go _ ⟨_, _, _, _, _, _, _, _, _, _, τ, υ, o', fC', fR', T3, a, b.up, hW, hp⟩
  · refine lw_below hL hG hi T2 (is_C hc.fx) (is_R hr.fx) (r := .inr (if b = true then 1 else 0)) (fun th' e => by cases e) (fun v e => ?_) (lcA (A := ClA W pg t n wy ch fuel rs rn res (i + 1)) (fun K q => cc_below (Z := ((some z4, some z5, some z6), (0, L, fun i => .int (xs i)))) (d := 2043) (by decide) hW.2.2.2.2 hc (by rw [hd]; exact q))) (lrA (A := RfA W pg t n wy ch fuel rs rn res i) (fun K q => rc_below (Z := ((some z4, some z5, some z6), (0, L, fun i => .int (xs i)))) (d := 2043)  hr (by rw [hd]; exact q))) (fun h' hc' hr' o' fC' fR' T3 p1 p2 => ?_)
    · cases e
      cases b
      · exact Or.inl rfl
      · exact Or.inr rfl
    · obtain ⟨τ, rfl, a⟩ := p1
      obtain ⟨υ, rfl, b⟩ := p2
      exact go _ ⟨_, _, _, _, _, _, _, _, _, _, τ, υ, o', fC', fR', T3, a, b.up, hW, hp⟩
theorem st_tell (hL : L ≤ 3072) (hG : ab_pure (hb_Gz (some z4, some z5, some z6) (some (0, L, fun i => .int (xs i))))) (hZ : ZK ((some z4, some z5, some z6), (0, L, fun i => .int (xs i)))) {i : Nat} (hi : 6 * i + 6 ≤ L) (S : LwS i h) (go : ∀ h', LwS (i + 1) h' → ab_fin (hb_Gz (some z4, some z5, some z6) (some (0, L, fun i => .int (xs i)))) hb_GT 2046 (mL_law, []) 1090 [(4, .int (Int32.ofNat (6 * i))), (3, .ref 3467), (2, .ref 102), (1, .ref 0), (0, .retAddr 9)] [] h' Q) : ab_fin (hb_Gz (some z4, some z5, some z6) (some (0, L, fun i => .int (xs i)))) hb_GT 2046 (mL_law, []) 284 [(4, .int (Int32.ofNat (6 * i))), (3, .ref 3467), (2, .ref 102), (1, .ref 0), (0, .retAddr 9)] [] h Q := by
  obtain ⟨W, pg, t, n, wy, ch, fuel, rs, rn, res, σC, σR, o, fC, fR, T2, hc, hr, hW, hp⟩ := S
  refine lw_tell hL hG hi T2 (is_C hc.fx) (is_R hr.fx) (v := Int32.ofInt (tlR t n W).1) (lcV (A := ClA (tlR t n W).2.2 pg t 0 wy ch fuel (tlR t n W).2.1 rn res (i + 1)) (fun K q => cc_tell (Z := ((some z4, some z5, some z6), (0, L, fun i => .int (xs i)))) (d := 2044) hZ (by decide) (by omega) hW hc q)) (lcV (A := RfA (tlR t n W).2.2 pg t 0 wy ch fuel (tlR t n W).2.1 rn res (i + 1)) (fun K q => rc_tell (Z := ((some z4, some z5, some z6), (0, L, fun i => .int (xs i)))) (d := 2045) hZ (by decide) hW.1 (by omega) hr (fun τ a _ => q τ a))) (fun h' hc' hr' o' fC' fR' T3 p1 p2 => ?_)
  obtain ⟨τ, rfl, a⟩ := p1
  obtain ⟨υ, rfl, b⟩ := p2
  have g := tl_grow (t := t) (n := n) W
  exact go _ ⟨_, _, _, _, _, _, _, _, _, _, τ, υ, o', fC', fR', T3, a, b, hW.tl, fun e => ⟨pg_grow g.1 g.2.1 g.2.2 (hp e).1, (hp e).2⟩⟩
theorem st_program (hL : L ≤ 3072) (hG : ab_pure (hb_Gz (some z4, some z5, some z6) (some (0, L, fun i => .int (xs i))))) (hZ : ZK ((some z4, some z5, some z6), (0, L, fun i => .int (xs i)))) {i : Nat} (hi : 6 * i + 6 ≤ L) (S : LwS i h) (go : ∀ h', LwS (i + 1) h' → ab_fin (hb_Gz (some z4, some z5, some z6) (some (0, L, fun i => .int (xs i)))) hb_GT 2046 (mL_law, []) 1090 [(4, .int (Int32.ofNat (6 * i))), (3, .ref 3467), (2, .ref 102), (1, .ref 0), (0, .retAddr 9)] [] h' Q) : ab_fin (hb_Gz (some z4, some z5, some z6) (some (0, L, fun i => .int (xs i)))) hb_GT 2046 (mL_law, []) 297 [(4, .int (Int32.ofNat (6 * i))), (3, .ref 3467), (2, .ref 102), (1, .ref 0), (0, .retAddr 9)] [] h Q := by
  obtain ⟨W, pg, t, n, wy, ch, fuel, rs, rn, res, σC, σR, o, fC, fR, T2, hc, hr, hW, hp⟩ := S
  refine lw_program hL hG hi T2 (is_C hc.fx) (is_R hr.fx) (v := Int32.ofInt (prR t n W).1) (lcV (A := ClA W (prR t n W).2.2 t 0 wy ch fuel (prR t n W).2.1 rn res (i + 1)) (fun K q => cc_program (Z := ((some z4, some z5, some z6), (0, L, fun i => .int (xs i)))) (d := 2044) hZ (by decide) (by omega) hW (pr_b hr) hc q)) (lcV (A := RfA W (prR t n W).2.2 t 0 wy ch fuel (prR t n W).2.1 rn res (i + 1)) (fun K q => rc_program (Z := ((some z4, some z5, some z6), (0, L, fun i => .int (xs i)))) (d := 2045) hZ (by decide) (by omega) hr (fun τ a _ => q τ a))) (fun h' hc' hr' o' fC' fR' T3 p1 p2 => ?_)
  obtain ⟨τ, rfl, a⟩ := p1
  obtain ⟨υ, rfl, b⟩ := p2
  exact go _ ⟨_, _, _, _, _, _, _, _, _, _, τ, υ, o', fC', fR', T3, a, b, hW, fun e => ⟨pr_pg hW.1 e, pr_k⟩⟩
theorem st_clear (hL : L ≤ 3072) (hG : ab_pure (hb_Gz (some z4, some z5, some z6) (some (0, L, fun i => .int (xs i))))) (hZ : ZK ((some z4, some z5, some z6), (0, L, fun i => .int (xs i)))) {i : Nat} (hi : 6 * i + 6 ≤ L) (S : LwS i h) (go : ∀ h', LwS (i + 1) h' → ab_fin (hb_Gz (some z4, some z5, some z6) (some (0, L, fun i => .int (xs i)))) hb_GT 2046 (mL_law, []) 1090 [(4, .int (Int32.ofNat (6 * i))), (3, .ref 3467), (2, .ref 102), (1, .ref 0), (0, .retAddr 9)] [] h' Q) : ab_fin (hb_Gz (some z4, some z5, some z6) (some (0, L, fun i => .int (xs i)))) hb_GT 2046 (mL_law, []) 310 [(4, .int (Int32.ofNat (6 * i))), (3, .ref 3467), (2, .ref 102), (1, .ref 0), (0, .retAddr 9)] [] h Q := by
  obtain ⟨W, pg, t, n, wy, ch, fuel, rs, rn, res, σC, σR, o, fC, fR, T2, hc, hr, hW, hp⟩ := S
  refine lw_clear hL hG hi T2 (is_C hc.fx) (is_R hr.fx) (lcV (A := ClA W0 .nil t n wy ch fuel rs rn res (i + 1)) (fun K q => cc_clear (Z := ((some z4, some z5, some z6), (0, L, fun i => .int (xs i)))) (d := 2044) (by decide) (by omega) hW hc q)) (lcV (A := RfA W0 .nil t n wy ch fuel rs rn res i) (fun K q => rc_clear (Z := ((some z4, some z5, some z6), (0, L, fun i => .int (xs i)))) (d := 2045) hZ (by decide) hr (fun τ a _ => q τ a))) (fun h' hc' hr' o' fC' fR' T3 p1 p2 => ?_)
  obtain ⟨τ, rfl, a⟩ := p1
  obtain ⟨υ, rfl, b⟩ := p2
  exact go _ ⟨_, _, _, _, _, _, _, _, _, _, τ, υ, o', fC', fR', T3, a, b.up, PuW.w0, fun e => by cases e⟩
end CALLS

/-! THE CLASS: set, below, row, word -/
section SMALLD
variable {Z : zT} {d : Nat} {B : Nat × Nat × Nat × Nat × Nat} {C V V' : Nat × Nat × Nat × Nat} {a u u' A m ver : Nat} {W W' : Wld} {pg pg' : Ast} {t t' : Nat → Int32} {n n' wy ch ch' fuel fuel' rs : Nat} {rn rn' : Option (Rs × Es)} {res res' : List Nat} {q : Nat} {σ τ υ : Sg} {K : kS} {E : Nat → Prop} {S : Es} {e1 e2 : String}
theorem LiS.bump (h : LiS W σ) (hv : σ.i 1 16 = Int32.ofNat ver) (hb : ver < 2147483000) (h57 : τ.i 57 = σ.i 57) (hv' : τ.i 1 16 = Int32.ofNat (ver + 1)) (hc : W'.2.1.length ≤ 24) : LiS W' τ := by
  have key : ∀ c, c < 24 → (τ.i 57 c).toInt ≤ ver := fun c hc => by
    have := h.2 c hc
    rw [hv, oN_i (by omega)] at this
    rw [h57]
    exact this
  refine ⟨fun c hc' e => ?_, fun c hc' => ?_⟩
  · have := key c (by omega)
    rw [e, hv', oN_i (by omega)] at this
    omega
  · have := key c hc'
    rw [hv', oN_i (by omega)]
    omega
theorem WhS.bump {wy' : Nat} (h : WhS W wy σ) (hv : σ.i 1 16 = Int32.ofNat ver) (hb : ver < 2147483000) (h68 : τ.i 68 = σ.i 68) (h82 : τ.l 82 = σ.l 82) (hv' : τ.i 1 16 = Int32.ofNat (ver + 1)) (hc : W'.2.1.length ≤ 24) : WhS W' wy' τ := by
  have key : ∀ c, c < 24 → (τ.i 68 c).toInt ≤ ver := fun c hc => by
    have := h.2.2 c hc
    rw [hv, oN_i (by omega)] at this
    rw [h68]
    exact this
  refine ⟨fun i j hi hj => ?_, fun c hc' e => ?_, fun c hc' => ?_⟩
  · rw [h82]
    exact h.1 i j hi hj
  · have := key c (by omega)
    rw [e, hv', oN_i (by omega)] at this
    omega
  · have := key c hc'
    rw [hv', oN_i (by omega)]
    omega
theorem NtS.bump {wy' : Nat} (h : NtS W wy σ) (hv : σ.i 1 16 = Int32.ofNat ver) (hb : ver < 2147483000) (h101 : τ.l 101 = σ.l 101) (hv' : τ.i 1 16 = Int32.ofNat (ver + 1)) : NtS W' wy' τ := fun H hH => by
  have key := (h H hH).1
  rw [hv, oN_i (by omega)] at key
  refine ⟨?_, fun e => ?_⟩
  · rw [h101, hv', oN_i (by omega)]
    omega
  · rw [h101, hv'] at e
    rw [e, Int32.toInt_toInt64, oN_i (by omega)] at key
    omega
theorem WhN.bump {wy' : Nat} (h : WhN W wy σ) (hv : σ.i 1 16 = Int32.ofNat ver) (hb : ver < 2147483000) (h68 : τ.i 68 = σ.i 68) (h82 : τ.l 82 = σ.l 82) (h101 : τ.l 101 = σ.l 101) (hv' : τ.i 1 16 = Int32.ofNat (ver + 1)) (hc : W'.2.1.length ≤ 24) : WhN W' wy' τ := ⟨h.1.bump hv hb h68 h82 hv' hc, h.2.bump hv hb h101 hv'⟩
theorem DjN.eq (h : DjN B C A σ) (e : sqA τ = sqA σ) : DjN B C A τ := by
  unfold DjN
  rw [e]
  exact h
theorem upN_le (σ : Sg) : upN σ ≤ 24 := by
  unfold upN
  have := List.length_filter_le (fun c => decide (σ.i 57 c ≠ σ.i 1 16)) (List.range 24)
  rw [List.length_range] at this
  exact this
theorem cc_set {b v : Int32} (h8 : 8 ≤ d) (hq : q ≤ 1000) (h : ClA W pg t n wy ch fuel rs rn res q σ) (hK : CAns K (ClA W pg t n (seW wy b v) (seC ch b v) (seF fuel b v) rs rn res (q + 1)) xIa xIa (seA wy ch fuel b v)) : C_X12_set_0 Z (d + 1) σ b v K := by
  have h0 := h
  obtain ⟨B, C, V, a, u, A, m, ver, h⟩ := h
  have F := h.fx
  have hl := F.len
  obtain ⟨k1, ⟨w1, w2⟩, ⟨⟨S0, k3⟩, k4, k5⟩, ⟨ne, wh⟩, ⟨v1, v2⟩, dj, ⟨r8, m256, tx, h9⟩, ⟨c1, c2, c3, c4⟩, ⟨h40, r1, r2⟩, ub, rm⟩ := id h
  have v0 : (0 : Int32) = Int32.ofNat 0 := rfl
  have iv : 0 ≤ v.toInt → v = Int32.ofNat v.toInt.toNat := fun z => by
    exact i_oN z
  unfold seA seW seC seF at hK
  have thr : ¬ (b = 0 ∧ 0 ≤ v.toInt ∧ v.toInt ≤ 3) → ¬ (b = 1 ∧ 0 ≤ v.toInt ∧ v.toInt ≤ 2) → ¬ (b = 2 ∧ 1 ≤ v.toInt ∧ v.toInt ≤ 100000) → K (.inr ("java/lang/IllegalArgumentException", σ.sh.length)) (σ.al (Sh.jnk 6)) := fun z0 z1 z2 => by
    rw [if_neg z0, if_neg z1, if_neg z2, if_neg z0, if_neg z1, if_neg z2] at hK
    exact cc_1 h0 hK
  have s72 : ¬ (b = 0 ∧ 0 ≤ v.toInt ∧ v.toInt ≤ 3) → ¬ (b = 1 ∧ 0 ≤ v.toInt ∧ v.toInt ≤ 2) → C_X12_set_72 Z (d + 1) σ b v K := fun z0 z1 => by
    refine T_X12_set_72 F h8 ⟨fun z => thr z0 z1 (fun y => z y.1), fun z => ⟨fun y => thr z0 z1 (fun x => ?_), fun y => ⟨fun y2 => thr z0 z1 (fun x => ?_), fun y2 => ?_⟩⟩⟩
    · rw [show (1 : Int32) = Int32.ofNat 1 from rfl, (i32_le_k v 1 (by decide)).2] at y
      omega
    · rw [show (100000 : Int32) = Int32.ofNat 100000 from rfl, (i32_le_k v 100000 (by decide)).1] at y2
      omega
    · rw [show (1 : Int32) = Int32.ofNat 1 from rfl, (i32_le_k v 1 (by decide)).2] at y
      rw [show (100000 : Int32) = Int32.ofNat 100000 from rfl, (i32_le_k v 100000 (by decide)).1] at y2
      rw [if_neg z0, if_neg z1, if_pos ⟨z, by omega, by omega⟩, if_neg z0, if_neg z1, if_pos ⟨z, by omega, by omega⟩] at hK
      rw [c2.1]
      exact hK _ ⟨B, C, V, a, u, A, m, ver, h.k0 ((XF.refl _ _).wi (a := 0) rfl) (Nat.le_refl _) ((wi_ne (by decide)).trans h9) (wi_ne (by decide)) ⟨(wi_ne (by decide)).trans c1.1, c1.2⟩ ⟨by rw [wi_at]; exact iv (by omega), by omega, by omega⟩ (wi_ne (by decide))⟩
  have s26 : ¬ (b = 0 ∧ 0 ≤ v.toInt ∧ v.toInt ≤ 3) → C_X12_set_26 Z (d + 1) σ b v K := fun z0 => by
    refine T_X12_set_26 F ⟨fun z => s72 z0 (fun y => z y.1), fun z => ⟨fun y => s72 z0 (fun x => ?_), fun y => ⟨fun y2 => s72 z0 (fun x => ?_), fun y2 => ?_⟩⟩⟩
    · rw [i32_lt0] at y
      omega
    · rw [show (3 : Int32) = Int32.ofNat 3 from rfl, Int32.le_iff_toInt_le, oN_i (by decide)] at y2
      omega
    · rw [i32_lt0] at y
      rw [show (3 : Int32) = Int32.ofNat 3 from rfl, Int32.le_iff_toInt_le, oN_i (by decide)] at y2
      have p1 : b = 1 ∧ 0 ≤ v.toInt ∧ v.toInt ≤ 2 := ⟨z, by omega, by omega⟩
      have p2 : ¬ (b = 2 ∧ 1 ≤ v.toInt ∧ v.toInt ≤ 100000) := fun x => absurd (z.symm.trans x.1) (by decide)
      rw [if_pos p1, if_neg z0, if_neg p2, if_neg z0, if_pos p1] at hK
      rw [w1, v1, oN_1]
      obtain ⟨τ, hτ⟩ : ∃ y, y = ((σ.wi 1 15 v).wi 1 16 (Int32.ofNat (ver + 1))) := ⟨_, rfl⟩
      rw [← hτ]
      have ei : ∀ x k, ¬ (x = 1 ∧ (k = 15 ∨ k = 16)) → τ.i x k = σ.i x k := fun x k z => by
        rw [hτ, wi_ne (by omega), wi_ne (by omega)]
      have e15 : τ.i 1 15 = v := by
        rw [hτ, wi_ne (by decide), wi_at]
      have e16 : τ.i 1 16 = Int32.ofNat (ver + 1) := by
        rw [hτ, wi_at]
      have sh : τ.sh = σ.sh := by rw [hτ]; rfl
      have rr : τ.r = σ.r := by rw [hτ]; rfl
      have ll : τ.l = σ.l := by rw [hτ]; rfl
      have er : ∀ x, x ≠ 1 → τ.i x = σ.i x := fun x hx => funext fun k => ei x k (by omega)
      obtain ⟨x3, hx3, ex3⟩ := k1.2.2.2.2.2.2.2
      have F' : FX ΦC τ.sh τ.r := by rw [sh, rr]; exact F
      have sa : SgA τ B.1 B.2.1 B.2.2.1 B.2.2.2.1 B.2.2.2.2 := by
        unfold SgA
        rw [sh, rr]
        exact k1.1.2.1
      have ca : CoA τ C.1 C.2.1 C.2.2.1 C.2.2.2 := by
        unfold CoA
        rw [sh, rr]
        exact k1.1.2.2.1
      obtain ⟨-, -, -, -, p0, p1, p2, -⟩ := id k1.1.2.2.1
      have gk : KpF (fun x => x = 1) σ τ := ⟨⟨[], by rw [sh, List.append_nil]⟩, fun x k _ => by rw [rr], fun x _ hx => ⟨er x hx, by rw [ll]⟩⟩
      have gx : XF (fun x => x = 1) σ τ := ⟨sh, rr, fun x hx => ⟨er x hx, by rw [ll]⟩⟩
      have sq := ne.sq
      have esq : sqA τ = sqA σ := sqA_g (by rw [rr])
      obtain ⟨-, -, -, -, g0, g1, g2, -⟩ := id k3.1
      have k1' : CRs B C W a τ := k1.mv F' sa ca k1.1.2.2.2.1 k1.2.2.2.2.2.2.1.1 ⟨k1.2.2.2.1.2.2.2.1.2.1, k1.2.2.2.1.2.2.2.1.2.2⟩ (fun x j z => ei x j (by unfold wlI at z; omega)) (fun x j _ => by rw [ll]) (fun j _ _ => by rw [er C.2.1 (by omega), er C.2.2.1 (by omega), er C.2.2.2 (by omega)]; exact ⟨rfl, rfl, rfl⟩) ⟨x3, hx3, by rw [er 28 (by decide)]; exact ex3⟩
      have cl24 := k1.1.2.2.2.2.2.1.2.1
      refine hK τ ⟨B, C, V, a, u, A, m, ver + 1, k1', ⟨by rw [e15]; exact iv (by omega), by omega⟩, ⟨⟨S0, k3.kp F gk (fun x _ hx z => by unfold seE at z; omega)⟩, k4.xf gx, k5.bump v1 (by omega) (er 57 (by decide)) e16 cl24⟩, ⟨ne.kp F gk (fun x _ hx => by omega), wh.bump v1 (by omega) (er 68 (by decide)) (by rw [ll]) (by rw [ll]) e16 cl24⟩, ⟨e16, by omega⟩, ⟨dj.1, dj.2.eq esq⟩, ⟨by rw [rr]; exact r8, ⟨m256.1, fun k hk => by rw [er A (by have := tx.2.2.2.2; omega)]; exact m256.2 k hk⟩, tx.kp gk (by have := tx.2.2.2.2; omega), by rw [er 0 (by decide)]; exact h9⟩, ⟨⟨by rw [er 0 (by decide)]; exact c1.1, c1.2⟩, ⟨by rw [er 0 (by decide)]; exact c2.1, c2.2⟩, by rw [er 0 (by decide)]; exact c3, fun z => ?_⟩, ⟨by rw [er 40 (by decide)]; exact h40, r1.kp F gk (fun x _ hx => by omega), r2.kp F gk (by rw [er 0 (by decide)]) (fun x _ hx => by omega)⟩, ?_, by rw [sh, sdN_g (er 46 (by decide))]; exact rm.up⟩
      · obtain ⟨z1, z2⟩ := c4 z
        refine ⟨z1, fun j q hq => ?_⟩
        rw [er C.2.1 (by omega), er C.2.2.1 (by omega), er C.2.2.2 (by omega)]
        exact z2 j q hq
      · have := upN_le τ
        omega
  refine T_X12_set_0 F ⟨fun z => s26 (fun y => z y.1), fun z => ⟨fun y => s26 (fun x => ?_), fun y => ⟨fun y2 => s26 (fun x => ?_), fun y2 => ?_⟩⟩⟩
  · rw [i32_lt0] at y
    omega
  · rw [show (3 : Int32) = Int32.ofNat 3 from rfl, (i32_le_k v 3 (by decide)).1] at y2
    omega
  · rw [i32_lt0] at y
    rw [show (3 : Int32) = Int32.ofNat 3 from rfl, (i32_le_k v 3 (by decide)).1] at y2
    have p0 : b = 0 ∧ 0 ≤ v.toInt ∧ v.toInt ≤ 3 := ⟨z, by omega, by omega⟩
    have p1 : ¬ (b = 1 ∧ 0 ≤ v.toInt ∧ v.toInt ≤ 2) := fun x => absurd (z.symm.trans x.1) (by decide)
    have p2 : ¬ (b = 2 ∧ 1 ≤ v.toInt ∧ v.toInt ≤ 100000) := fun x => absurd (z.symm.trans x.1) (by decide)
    rw [if_neg p1, if_pos p0, if_neg p2, if_pos p0] at hK
    rw [c1.1]
    exact hK _ ⟨B, C, V, a, u, A, m, ver, h.k0 ((XF.refl _ _).wi (a := 0) rfl) (Nat.le_refl _) ((wi_ne (by decide)).trans h9) (wi_ne (by decide)) ⟨by rw [wi_at]; exact iv (by omega), by omega⟩ ⟨(wi_ne (by decide)).trans c2.1, c2.2⟩ (wi_ne (by decide))⟩
theorem cl_isKind {v : Int32} (h : ClX B C V a u A m ver W pg t n wy ch fuel rs rn res q σ) (k0 : ¬ (0 ≤ v.toInt ∧ v.toInt < W.1.length) → K (.inl (some (.int 0))) σ) (k1 : 0 ≤ v.toInt → v.toInt < W.1.length → K (.inl (some (.int 1))) σ) : C_X11_isKind_0 Z (d + 1) σ v K := by
  obtain ⟨l1, l2, -⟩ := h.1.1.2.2.2.2.1
  refine T_X11_isKind_0 h.fx ⟨fun z => k0 ?_, fun z => ⟨fun z2 => k0 ?_, fun z2 => k1 ?_ ?_⟩⟩
  · rw [i32_lt0] at z
    omega
  · rw [l1, Int32.le_iff_toInt_le, oN_i (by omega)] at z2
    omega
  · rw [i32_lt0] at z
    omega
  · rw [l1, Int32.le_iff_toInt_le, oN_i (by omega)] at z2
    omega
theorem cc_below {x y : Int32} (h8 : 8 ≤ d) (hj : JoB W) (h : ClA W pg t n wy ch fuel rs rn res q σ) (hK : CAns K (ClA W pg t n wy ch fuel rs rn res (q + 1)) xIo xIo (match beA W x y with | .inl th => .inl th | .inr b => .inr (if b = true then 1 else 0))) : C_X12_below_0 Z (d + 1) σ x y K := by
  have h0 := h
  have hu := h.up
  obtain ⟨d, rfl⟩ : ∃ e, d = e + 1 := ⟨d - 1, by omega⟩
  obtain ⟨B, C, V, a, u, A, m, ver, h⟩ := h
  unfold beA at hK
  have h24 := h.1.1.2.2.2.2.1.2.1
  refine T_X12_below_0 h.fx h8 (cl_isKind h (fun z => ⟨fun _ => ?_, fun y => absurd rfl y⟩) (fun z1 z2 => ⟨fun y => absurd y (by decide), fun _ => cl_isKind h (fun z => ⟨fun y => absurd rfl y, fun _ => ?_⟩) (fun z3 z4 => ⟨fun _ => ?_, fun y => absurd y (by decide)⟩)⟩))
  · rw [if_neg (by omega)] at hK
    exact cc_1 h0 hK
  · rw [if_neg (by omega)] at hK
    exact cc_1 h0 hK
  · rw [if_pos ⟨z1, z2, z3, z4⟩] at hK
    have ex : x = Int32.ofNat x.toInt.toNat := i_oN z1
    have ey : y = Int32.ofNat y.toInt.toNat := i_oN z3
    have hK : ∀ τ, ClA W pg t n wy ch fuel rs rn res (q + 1) τ → K (.inl (some (.int (if blW W.1 x.toInt.toNat y.toInt.toNat = true then 1 else 0)))) τ := hK
    rw [ex, ey]
    refine cl_below (h.qw hj).1 (by omega) (by omega) ?_
    have hK := hK σ hu
    unfold blW at hK
    by_cases z : y.toInt.toNat ∈ rwW W.1 1 x.toInt.toNat
    · rw [if_pos (decide_eq_true z)] at hK
      rw [if_pos z]
      exact ⟨by first | rfl | decide, hK⟩
    · rw [if_neg (by rw [decide_eq_true_iff]; exact z)] at hK
      rw [if_neg z]
      exact ⟨by first | rfl | decide, hK⟩
theorem cc_row {k w i : Int32} (h8 : 8 ≤ d) (h : ClA W pg t n wy ch fuel rs rn res q σ) (hK : CAns K (ClA W pg t n wy ch fuel rs rn res (q + 1)) xIo xIa (roA W k w i)) : C_X12_row_0 Z (d + 1) σ k w i K := by
  have h0 := h
  have hu := h.up
  obtain ⟨d, rfl⟩ : ∃ e, d = e + 1 := ⟨d - 1, by omega⟩
  obtain ⟨B, C, V, a, u, A, m, ver, h⟩ := h
  unfold roA at hK
  have h24 := h.1.1.2.2.2.2.1.2.1
  refine T_X12_row_0 h.fx h8 (cl_isKind h (fun z => ⟨fun _ => ?_, fun y => absurd rfl y⟩) (fun z1 z2 => ⟨fun y => absurd y (by decide), fun _ => ⟨fun z3 => ⟨fun z4 => ?_, fun z4 => ⟨fun z5 => ?_, fun z5 => ?_⟩⟩, fun z3 => ?_⟩⟩))
  · rw [if_pos (by omega)] at hK
    exact cc_1 h0 hK
  · rw [Int32.le_iff_toInt_le] at z3
    have z3 : 0 ≤ i.toInt := z3
    rw [i32_lt0] at z4
    rw [if_neg (by omega), if_pos (by omega)] at hK
    exact cc_2 h0 hK
  · rw [Int32.le_iff_toInt_le] at z3
    have z3 : 0 ≤ i.toInt := z3
    rw [i32_lt0] at z4
    rw [show (3 : Int32) = Int32.ofNat 3 from rfl, (i32_le_k w 3 (by decide)).2] at z5
    rw [if_neg (by omega), if_neg (by omega)] at hK
    have ek : k = Int32.ofNat k.toInt.toNat := i_oN z1
    have ew : w = Int32.ofNat w.toInt.toNat := i_oN (by omega)
    have ei : i = Int32.ofNat i.toInt.toNat := i_oN z3
    obtain ⟨x, hx⟩ : ∃ x, W.1[k.toInt.toNat]? = some x := ⟨_, List.getElem?_eq_getElem (by omega)⟩
    obtain ⟨⟨b1, b2, b3⟩, bw⟩ := h.1.2.1 _ x hx
    have er : rwW W.1 w.toInt.toNat k.toInt.toNat = rwK x w.toInt.toNat := by
      unfold rwW
      rw [hx]
    have ln := (bw.2 w.toInt.toNat (by omega)).2.1
    have ln24 : x.2.2.2.1.length ≤ 24 := by
      have nd := (bw.2 w.toInt.toNat (by omega)).1
      have := nd_le _ (List.range 24) nd (fun y hy => List.mem_range.mpr (by have := ((bw.2 w.toInt.toNat (by omega)).2.2 y).1 hy; omega))
      rw [List.length_range] at this
      omega
    rw [er, ln] at hK
    refine ⟨by rw [ek]; exact ib_oN (by omega) (by decide), ?_⟩
    rw [show k.toNatClampNeg = k.toInt.toNat from rfl, b2, Int32.le_iff_toInt_le, oN_i (by omega)]
    refine ⟨fun z6 => ?_, fun z6 => ?_⟩
    · rw [if_neg (by omega)] at hK
      exact hK σ hu
    · rw [if_pos (by omega)] at hK
      have hy : (rwK x w.toInt.toNat)[i.toInt.toNat]? = some ((rwK x w.toInt.toNat).getD i.toInt.toNat 0) := by
        rw [List.getD_eq_getElem?_getD, List.getElem?_eq_getElem (by omega)]
        rfl
      have b4 := (b3 w.toInt.toNat (by omega) _ _ hy).1
      refine T_X2_inRow_0 h.fx ?_
      have ix : (w * 24 + k) * 24 + i = Int32.ofNat ((w.toInt.toNat * 24 + k.toInt.toNat) * 24 + i.toInt.toNat) := by
        rw [← oN_add, ← oN_mul, ← oN_add, ← oN_mul, ← ek, ← ew, ← ei]
        rfl
      rw [ix]
      refine ⟨ib_oN (by omega) (by decide), ?_⟩
      rw [oN_t (by omega), b4]
      exact hK σ hu
  · rw [Int32.le_iff_toInt_le] at z3
    have z3 : 0 ≤ i.toInt := z3
    rw [i32_lt0] at z4
    rw [show (3 : Int32) = Int32.ofNat 3 from rfl, (i32_le_k w 3 (by decide)).2] at z5
    rw [if_neg (by omega), if_pos (by omega)] at hK
    exact cc_2 h0 hK
  · rw [Int32.le_iff_toInt_le] at z3
    have z3 : ¬ 0 ≤ i.toInt := z3
    rw [if_pos (by omega)] at hK
    exact cc_1 h0 hK
end SMALLD

/-! THE CLASS: plain ones, joined ones, what is before -/
section INS3
variable {Z : zT} {d : Nat} {C V V' V2 : Nat × Nat × Nat × Nat} {W : Wld} {wy a0 ch U fuel : Nat} {f : Fc} {S : Es} {k P dp tn j nv hm : Nat} {lt : Int32} {on : List Nat} {stk vs args : List Int64} {σ τ υ : Sg} {K Kx : kS} {N : Nat → Prop} {e H role i m c bk ph tu t0 : Nat} {R : Nat → List Nat × Bool} {jv v : Int64} {en : Ef}
/-- the plain ones are done -/
theorem gi_fin (hEn : EnM Z d C W wy a0 ch U f fuel dp en) (X : InX C W dp c H bk nv R args stk) (hv : VlG W jv) (h0 : 0 < (R 0).1.length) (htu : tu ≤ 200) (ht : ¬ tu < if jnW W.2.1 c = 0 then 1 else (R 0).1.length) (A : McA C W wy a0 ch U f fuel V S 0 P dp lt on stk tn (j + 2) σ) (I : InS (dp + 1) bk H 0 t0 jv args σ) (hC : CcM H R σ) (hK : McQ Z d C W wy a0 ch U f fuel (dp + 1) (Nv dp nv) V σ dp stk on lt bk j (ruD en (c, R) 3 args on (R 3).1.length S fun S => (.inl jv, S)) K) (hx : ∀ τ, C_X4_perform_257 Z (d + 9) τ (Int32.ofNat fuel) (Int32.ofNat tn) K → Kx (.inl none) τ) : C_X4_goOnInside_64 Z (e + 4) σ (Int32.ofNat (dp + 1)) (Int32.ofNat (dp + 1) * 32) (Int32.ofNat H) (Int32.ofNat tu) Kx := by
  have x4 := X.2.2.2.1
  have x9 := X.2.2.2.2.2.2.2.2.1
  refine gi_64 X A I hC (fun _ => h0) (by decide) htu (fun z => absurd (z rfl) ht) (fun _ _ τ g A1 I1 => ?_)
  exact gi_3 hEn X hv _ 0 V τ S tn P e t0 Kx (Nat.zero_add _) A1 I1 (hC.mf g (by omega)) (hK.fr (g.nvs x9)) hx
/-- the best one -/
theorem gi_pl (hEn : EnM Z d C W wy a0 ch U f fuel dp en) (X : InX C W dp c H bk nv R args stk) (h0 : 0 < (R 0).1.length) (hj : jnW W.2.1 c = 0) (A : McA C W wy a0 ch U f fuel V S 0 P dp lt on stk tn (j + 2) σ) (I : InS (dp + 1) bk H 0 t0 jv args σ) (hC : CcM H R σ) (hK : McQ Z d C W wy a0 ch U f fuel (dp + 1) (Nv dp nv) V σ dp stk on lt bk j (bnR (en (c, R) 0 0 args on S) fun v S => ruD en (c, R) 3 args on (R 3).1.length S fun S => (.inl v, S)) K) (hx : ∀ τ, C_X4_perform_257 Z (d + 9) τ (Int32.ofNat fuel) (Int32.ofNat tn) K → Kx (.inl none) τ) : C_X4_goOnInside_64 Z (e + 4) σ (Int32.ofNat (dp + 1)) (Int32.ofNat (dp + 1) * 32) (Int32.ofNat H) (Int32.ofNat 0) Kx := by
  have X' := X
  obtain ⟨x1, x2, x3, x4, x5, x6, x7, x8, x9, x10⟩ := X
  have hpl := plW_ok x1.1.2.1 x3
  obtain ⟨m, hm⟩ : ∃ m, (R 0).1[0]? = some m := ⟨_, List.getElem?_eq_getElem h0⟩
  have hmem := List.mem_of_getElem? hm
  obtain ⟨⟨m1, m2⟩, m3⟩ := (x2.1 0).2 m hmem
  have hgn := x2.2.1 0 m hmem
  refine gi_64 X' A I hC (fun _ => h0) (by decide) (by decide) (fun _ => ?_) (fun _ z => absurd (by rw [if_pos hj]; decide) z)
  refine gi_97 X' A I hC (by decide) (by decide) (fun _ => ?_) hx (fun z => absurd z (by decide))
  refine gi_153 (nv := nv) (spot := 0) hEn X' A I hC (by decide) (by decide) hm (fun z => absurd z (by decide)) (fun _ => rfl) hx (fun σ1 g1 I1 C1 => ?_)
  refine EnQ.bn x9 (hK.fr g1) (fun v' S' V' τ tn' P' q1 Fh A' hv' K' => ?_)
  have I2 := I1.bck q1 Fh (by omega)
  refine gi_end (v := v') X' A' I2 Fh (by decide) m1 m2 hgn m3 (fun τ1 Kx1 hx1 q2 A2 I3 => ?_)
  rw [hj] at I3
  have I3 : InS (dp + 1) bk H 0 1 v' args τ1 := I3
  have C2 := (C1.mf q1 (by omega)).mf q2 (by omega)
  refine gi_0 (e := d + 3) X' A2 I3 C2 (by decide) (by decide) (fun _ => ?_) (fun z => absurd z (by decide))
  exact gi_fin hEn X' hv' h0 (by decide) (by rw [if_pos hj]; decide) A2 I3 C2 (K'.fr (q2.nvs x9)) hx1
/-- joined ones -/
theorem gi_jn (hEn : EnM Z d C W wy a0 ch U f fuel dp en) (X : InX C W dp c H bk nv R args stk) (h0 : 0 < (R 0).1.length) (hj : jnW W.2.1 c ≠ 0 ∧ jnW W.2.1 c ≤ 4) : ∀ (n tu : Nat) (vv : Int32) (jv : Int64) (V : Nat × Nat × Nat × Nat) (σ : Sg) (S : Es) (tn P e t0 : Nat) (Kx : kS), tu + n = (R 0).1.length → ((jv = vlX 1 vv ∧ (jnW W.2.1 c = 4 → tu ≠ 0)) ∨ (jnW W.2.1 c = 4 ∧ tu = 0 ∧ jv = vlX 1 2147483647)) → (jnW W.2.1 c = 2 → vv = 1) → (jnW W.2.1 c = 3 → vv = 0) → McA C W wy a0 ch U f fuel V S 0 P dp lt on stk tn (j + 2) σ → InS (dp + 1) bk H 0 t0 jv args σ → CcM H R σ → McQ Z d C W wy a0 ch U f fuel (dp + 1) (Nv dp nv) V σ dp stk on lt bk j (jnR en (c, R) (jnW W.2.1 c) args on n tu vv S fun v S => ruD en (c, R) 3 args on (R 3).1.length S fun S => (.inl (vlX 1 v), S)) K → (∀ τ, C_X4_perform_257 Z (d + 9) τ (Int32.ofNat fuel) (Int32.ofNat tn) K → Kx (.inl none) τ) → C_X4_goOnInside_64 Z (e + 4) σ (Int32.ofNat (dp + 1)) (Int32.ofNat (dp + 1) * 32) (Int32.ofNat H) (Int32.ofNat tu) Kx := by
  have X' := X
  obtain ⟨x1, x2, x3, x4, x5, x6, x7, x8, x9, x10⟩ := X
  have hpl := plW_ok x1.1.2.1 x3
  have r0 := (x2.1 0).1
  have v1 : ∀ n : Int32, VlG W (vlX 1 n) := fun n => ⟨1, n, rfl, x1.2.1⟩
  intro n
  induction n with
  | zero =>
    intro tu vv jv V σ S tn P e t0 Kx htu hjv h2 h3 A I hC hK hx
    have ej : jv = vlX 1 vv := hjv.elim And.left (fun z => by omega)
    subst ej
    exact gi_fin hEn X' (v1 _) h0 (by omega) (by rw [if_neg hj.1]; omega) A I hC hK hx
  | succ n ih =>
    intro tu vv jv V σ S tn P e t0 Kx htu hjv h2 h3 A I hC hK hx
    obtain ⟨m, hm⟩ : ∃ m, (R 0).1[tu]? = some m := ⟨_, List.getElem?_eq_getElem (by omega)⟩
    have hmem := List.mem_of_getElem? hm
    obtain ⟨⟨m1, m2⟩, m3⟩ := (x2.1 0).2 m hmem
    have hgn := x2.2.1 0 m hmem
    refine gi_64 X' A I hC (fun _ => h0) (by decide) (by omega) (fun _ => ?_) (fun _ z => absurd (by rw [if_neg hj.1]; omega) z)
    refine gi_97 X' A I hC (by decide) (by omega) (fun _ => ?_) hx (fun z => absurd z (by decide))
    refine gi_153 (nv := nv) (spot := tu) hEn X' A I hC (by decide) (by omega) hm (fun z => absurd z (by decide)) (fun _ => rfl) hx (fun σ1 g1 I1 C1 => ?_)
    rw [jnR] at hK
    refine EnQ.bn x9 (hK.fr g1) (fun x S' V' τ tn' P' q1 Fh A' hv' K' => ?_)
    have I2 := I1.bck q1 Fh (by omega)
    refine gi_end (v := x) X' A' I2 Fh (by decide) m1 m2 hgn m3 (fun τ1 Kx1 hx1 q2 A2 I3 => ?_)
    have C2 := (C1.mf q1 (by omega)).mf q2 (by omega)
    have K2 := K'.fr (q2.nvs x9)
    simp only [true_and, if_true] at I3
    have tb : (if (jqV (jnW W.2.1 c) jv x).2 = true then 120 else tu + 1) ≤ 200 := by split <;> omega
    refine gi_0 (e := d + 3) X' A2 I3 C2 (by decide) tb (fun _ => ?_) (fun z => absurd z (by decide))
    have go : ∀ vv' : Int32, (jqV (jnW W.2.1 c) jv x).2 = false → (jqV (jnW W.2.1 c) jv x).1 = vlX 1 vv' → (jnW W.2.1 c = 2 → vv' = 1) → (jnW W.2.1 c = 3 → vv' = 0) → McQ Z d C W wy a0 ch U f fuel (dp + 1) (Nv dp nv) V' τ1 dp stk on lt bk j (jnR en (c, R) (jnW W.2.1 c) args on n (tu + 1) vv' S' fun v S => ruD en (c, R) 3 args on (R 3).1.length S fun S => (.inl (vlX 1 v), S)) K → C_X4_goOnInside_64 Z (d + 7) τ1 (Int32.ofNat (dp + 1)) (Int32.ofNat (dp + 1) * 32) (Int32.ofNat H) (Int32.ofNat (if (jqV (jnW W.2.1 c) jv x).2 = true then 120 else tu + 1)) Kx1 := fun vv' e1 e2 e3 e4 K3 => by
      rw [e1, e2, if_neg (by decide)] at I3
      rw [e1, if_neg (by decide)]
      exact ih (tu + 1) vv' _ V' τ1 S' tn' P' (d + 3) _ Kx1 (by omega) (Or.inl ⟨rfl, fun _ => Nat.succ_ne_zero _⟩) e3 e4 A2 I3 C2 K3 hx1
    have st : ∀ vv' : Int32, (jqV (jnW W.2.1 c) jv x).2 = true → (jqV (jnW W.2.1 c) jv x).1 = vlX 1 vv' → McQ Z d C W wy a0 ch U f fuel (dp + 1) (Nv dp nv) V' τ1 dp stk on lt bk j (ruD en (c, R) 3 args on (R 3).1.length S' fun S => (.inl (vlX 1 vv'), S)) K → C_X4_goOnInside_64 Z (d + 7) τ1 (Int32.ofNat (dp + 1)) (Int32.ofNat (dp + 1) * 32) (Int32.ofNat H) (Int32.ofNat (if (jqV (jnW W.2.1 c) jv x).2 = true then 120 else tu + 1)) Kx1 := fun vv' e1 e2 K3 => by
      rw [e1, e2, if_pos rfl] at I3
      rw [e1, if_pos rfl]
      exact gi_fin (e := d + 3) hEn X' (v1 _) h0 (by decide) (by rw [if_neg hj.1]; omega) A2 I3 C2 K3 hx1
    have cs : jnW W.2.1 c = 1 ∨ jnW W.2.1 c = 2 ∨ jnW W.2.1 c = 3 ∨ jnW W.2.1 c = 4 := by omega
    rcases cs with q | q | q | q
    · have ej : jv = vlX 1 vv := hjv.elim And.left (fun z => by omega)
      rw [q] at go K2 ⊢
      rw [if_pos rfl] at K2
      refine go (vv + nmV x) rfl ?_ (fun z => absurd z (by decide)) (fun z => absurd z (by decide)) K2
      show vlX 1 (nmV jv + nmV x) = _
      rw [ej, nm_vl]
    · rw [q] at go st K2 ⊢
      rw [if_neg (by decide), if_neg (by decide)] at K2
      by_cases z : nmV x = 0
      · rw [if_pos ⟨rfl, z⟩] at K2
        refine st 0 (decide_eq_true z) ?_ K2
        show vlX 1 (if nmV x = 0 then 0 else 1) = _
        rw [if_pos z]
      · rw [if_neg (fun y => z y.2), if_neg (fun y => absurd y.1 (by decide)), h2 q] at K2
        refine go 1 (decide_eq_false z) ?_ (fun _ => rfl) (fun z => absurd z (by decide)) K2
        show vlX 1 (if nmV x = 0 then 0 else 1) = _
        rw [if_neg z]
    · rw [q] at go st K2 ⊢
      rw [if_neg (by decide), if_neg (by decide), if_neg (fun y => absurd y.1 (by decide))] at K2
      by_cases z : nmV x = 0
      · rw [if_neg (fun y => y.2 z), h3 q] at K2
        refine go 0 (decide_eq_false (fun y => y z)) ?_ (fun z => absurd z (by decide)) (fun _ => rfl) K2
        show vlX 1 (if nmV x = 0 then 0 else 1) = _
        rw [if_pos z]
      · rw [if_pos ⟨rfl, z⟩] at K2
        refine st 1 (decide_eq_true z) ?_ K2
        show vlX 1 (if nmV x = 0 then 0 else 1) = _
        rw [if_neg z]
    · rw [q] at go K2 ⊢
      rw [if_neg (by decide), if_pos rfl] at K2
      refine go _ rfl ?_ (fun z => absurd z (by decide)) (fun z => absurd z (by decide)) K2
      show vlX 1 (if nmV x < nmV jv then nmV x else nmV jv) = _
      rcases hjv with ⟨ej, z0⟩ | ⟨-, z0, ej⟩
      · rw [ej, nm_vl, if_neg (z0 q)]
      · rw [ej, nm_vl, if_pos z0]
        by_cases z : nmV x < 2147483647
        · rw [if_pos z]
        · rw [if_neg z]
          have h1 := Int32.toInt_lt (nmV x)
          have h2 : ¬ (nmV x).toInt < 2147483647 := fun y => z (Int32.lt_iff_toInt_lt.mpr y)
          rw [show (2147483647 : Int32) = nmV x from Int32.toInt_inj.mp (by show (2147483647 : Int) = _; omega)]
/-- what is before -/
theorem gi_bf (hEn : EnM Z d C W wy a0 ch U f fuel dp en) (X : InX C W dp c H bk nv R args stk) {g : Es → Rs × Es}
    (hpl : ∀ (V : Nat × Nat × Nat × Nat) (σ : Sg) (S : Es) (tn P e t0 : Nat) (Kx : kS), McA C W wy a0 ch U f fuel V S 0 P dp lt on stk tn (j + 2) σ → InS (dp + 1) bk H 0 t0 jv args σ → CcM H R σ → McQ Z d C W wy a0 ch U f fuel (dp + 1) (Nv dp nv) V σ dp stk on lt bk j (g S) K → (∀ τ, C_X4_perform_257 Z (d + 9) τ (Int32.ofNat fuel) (Int32.ofNat tn) K → Kx (.inl none) τ) → C_X4_goOnInside_64 Z (e + 4) σ (Int32.ofNat (dp + 1)) (Int32.ofNat (dp + 1) * 32) (Int32.ofNat H) (Int32.ofNat 0) Kx) : ∀ (n tu : Nat) (V : Nat × Nat × Nat × Nat) (σ : Sg) (S : Es) (tn P e : Nat) (Kx : kS), tu + n = (R 2).1.length → McA C W wy a0 ch U f fuel V S 0 P dp lt on stk tn (j + 2) σ → InS (dp + 1) bk H 2 tu jv args σ → CcM H R σ → McQ Z d C W wy a0 ch U f fuel (dp + 1) (Nv dp nv) V σ dp stk on lt bk j (ruU en (c, R) 2 args on n tu S g) K → (∀ τ, C_X4_perform_257 Z (d + 9) τ (Int32.ofNat fuel) (Int32.ofNat tn) K → Kx (.inl none) τ) → C_X4_goOnInside_0 Z (e + 4) σ Kx := by
  have X' := X
  obtain ⟨x1, x2, x3, x4, x5, x6, x7, x8, x9, x10⟩ := X
  have hpl3 := plW_ok x1.1.2.1 x3
  have r2 := (x2.1 2).1
  intro n
  induction n with
  | zero =>
    intro tu V σ S tn P e Kx htu A I hC hK hx
    refine gi_0 X' A I hC (by decide) (by omega) (fun z => absurd (z rfl) (by omega)) (fun _ _ τ g1 A1 I1 => ?_)
    exact hpl V τ S tn P e tu Kx A1 I1 (hC.mf g1 (by omega)) (McQ.fr hK (g1.nvs x9)) hx
  | succ n ih =>
    intro tu V σ S tn P e Kx htu A I hC hK hx
    obtain ⟨m, hm⟩ : ∃ m, (R 2).1[tu]? = some m := ⟨_, List.getElem?_eq_getElem (by omega)⟩
    have hmem := List.mem_of_getElem? hm
    obtain ⟨⟨m1, m2⟩, m3⟩ := (x2.1 2).2 m hmem
    have hgn := x2.2.1 2 m hmem
    refine gi_0 X' A I hC (by decide) (by omega) (fun _ => ?_) (fun _ z => absurd (by omega) z)
    refine gi_64 X' A I hC (fun z => absurd z (by decide)) (by decide) (by omega) (fun _ => ?_) (fun z => absurd z (by decide))
    refine gi_97 X' A I hC (by decide) (by omega) (fun _ => ?_) hx (fun z => absurd z (by decide))
    refine gi_153 (nv := nv) (spot := tu) hEn X' A I hC (by decide) (by omega) hm (fun z => absurd z (by decide)) (fun _ => rfl) hx (fun σ1 g1 I1 C1 => ?_)
    refine EnQ.bn (g := fun _ S => ruU en (c, R) 2 args on n (tu + 1) S g) x9 (McQ.fr hK g1) (fun x S' V' τ tn' P' q1 Fh A' hv' K' => ?_)
    have I2 := I1.bck q1 Fh (by omega)
    refine gi_end (v := x) X' A' I2 Fh (by decide) m1 m2 hgn m3 (fun τ1 Kx1 hx1 q2 A2 I3 => ?_)
    rw [if_neg (show ¬ (2 = 0 ∧ _) from fun z => absurd z.1 (by decide)), if_neg (by decide)] at I3
    have C2 := (C1.mf q1 (by omega)).mf q2 (by omega)
    exact ih (tu + 1) V' τ1 S' tn' P' (d + 3) Kx1 (by omega) A2 I3 C2 (K'.fr (q2.nvs x9)) hx1
/-- INSIDE begins -/
theorem gi_begin (hEn : EnM Z d C W wy a0 ch U f fuel dp en) (X : InX C W dp c H bk nv R args stk) (A : McA C W wy a0 ch U f fuel V S 0 P dp lt on stk tn (j + 2) σ) (hC : CcM H R σ) (hg : ∀ (i : Nat) y, args[i]? = some y → σ.l 95 i = y) (hK : McQ Z d C W wy a0 ch U f fuel (dp + 1) (Nv dp nv) V σ dp stk on lt bk j (inR W en (c, R) args on S) K) (hx : ∀ τ, C_X4_perform_257 Z (d + 9) τ (Int32.ofNat fuel) (Int32.ofNat tn) K → Kx (.inl none) τ) : C_X4_beginInside_0 Z (e + 5) σ (Int32.ofNat H) (Int32.ofNat bk) Kx := by
  have X' := X
  obtain ⟨x1, x2, x3, x4, x5, x6, x7, x8, x9, x10⟩ := X
  have hpl3 := plW_ok x1.1.2.1 x3
  have r0 := (x2.1 0).1
  obtain ⟨jn, jn4, c24⟩ := A.jn x3
  have hF : dp + 1 ≤ 25 := by omega
  refine T_X4_beginInside_0 A.fx (cl_size (role := 0) A.fx (by omega) (by decide) hC ?_)
  show (¬ Int32.ofNat (R 0).1.length = Int32.ofNat 0 → _) ∧ (Int32.ofNat (R 0).1.length = Int32.ofNat 0 → _)
  rw [oN_eq (by omega) (by decide)]
  refine ⟨fun q => ?_, fun q => ?_⟩
  · have h0 : 0 < (R 0).1.length := by omega
    obtain ⟨m, hm⟩ : ∃ m, (R 0).1[0]? = some m := ⟨_, List.getElem?_eq_getElem h0⟩
    have hmem := List.mem_of_getElem? hm
    obtain ⟨⟨m1, m2⟩, m3⟩ := (x2.1 0).2 m hmem
    obtain ⟨mc, m122⟩ := A.mc x1.1 m1 m2 (x2.2.1 0 m hmem) m3
    refine cl_inRow (role := 0) (i := 0) A.fx (by omega) (by decide) hC hm ?_
    show ib (Int32.ofNat m) 122 ∧ ib (σ.i 11 (Int32.ofNat m).toNatClampNeg) 24 ∧ _
    have fi : ∀ q : Nat, q < 32 → Int32.ofNat (dp + 1) * 32 + Int32.ofNat q = Int32.ofNat (32 * (dp + 1) + q) := fun q hq => (f32_ix hF hq).1
    have fb : ∀ q : Nat, q < 32 → ib (Int32.ofNat (32 * (dp + 1) + q)) 832 := fun q hq => (f32_ix hF hq).2.1
    have ft : ∀ q : Nat, q < 32 → (Int32.ofNat (32 * (dp + 1) + q)).toNatClampNeg = 32 * (dp + 1) + q := fun q hq => (f32_ix hF hq).2.2
    have z0 : Int32.ofNat (dp + 1) * 32 + 0 = Int32.ofNat (32 * (dp + 1) + 0) := fi 0 (by decide)
    have z2 : Int32.ofNat (dp + 1) * 32 + 2 = Int32.ofNat (32 * (dp + 1) + 2) := fi 2 (by decide)
    have z5 : Int32.ofNat (dp + 1) * 32 + 5 = Int32.ofNat (32 * (dp + 1) + 5) := fi 5 (by decide)
    have z6 : Int32.ofNat (dp + 1) * 32 + 6 = Int32.ofNat (32 * (dp + 1) + 6) := fi 6 (by decide)
    have z7 : Int32.ofNat (dp + 1) * 32 + 7 = Int32.ofNat (32 * (dp + 1) + 7) := fi 7 (by decide)
    have z8 : Int32.ofNat (dp + 1) * 32 + 8 = Int32.ofNat (32 * (dp + 1) + 8) := fi 8 (by decide)
    rw [oN_t (by omega), mc, oN_t (by omega), jn, A.2.2.1.2.2.1.1, oN_1, z0, z2, z5, z6, z7, ft 0 (by decide), ft 2 (by decide), ft 5 (by decide), ft 6 (by decide)]
    refine ⟨ib_oN m122 (by decide), ib_oN c24 (by decide), fb 0 (by decide), fb 2 (by decide), fb 5 (by decide), fb 6 (by decide), ?_⟩
    obtain ⟨σ1, hσ1⟩ : ∃ y, y = ((((σ.wl 94 (32 * (dp + 1) + 0) (Int32.toInt64 (Int32.ofNat bk))).wl 94 (32 * (dp + 1) + 2) (Int32.toInt64 (Int32.ofNat H))).wl 94 (32 * (dp + 1) + 5) (2 : Int64)).wl 94 (32 * (dp + 1) + 6) (0 : Int64)) := ⟨_, rfl⟩
    rw [← hσ1]
    have y1 : XF (fun a => a = 94 ∨ a = 95) σ σ1 := by
      rw [hσ1]
      exact ((((XF.refl _ _).wl (Or.inl rfl)).wl (Or.inl rfl)).wl (Or.inl rfl)).wl (Or.inl rfl)
    have l1 : ∀ a b, ¬ (a = 94 ∧ 32 * (dp + 1) ≤ b ∧ b ≤ 32 * (dp + 1) + 6) → σ1.l a b = σ.l a b := fun a b z => by
      rw [hσ1, wl_ne (by omega), wl_ne (by omega), wl_ne (by omega), wl_ne (by omega)]
    have w0 : σ1.l 94 (32 * (dp + 1)) = Int32.toInt64 (Int32.ofNat bk) := by
      rw [hσ1, wl_ne (by omega), wl_ne (by omega), wl_ne (by omega)]
      exact wl_eq
    have w2 : σ1.l 94 (32 * (dp + 1) + 2) = Int32.toInt64 (Int32.ofNat H) := by
      rw [hσ1, wl_ne (by omega), wl_ne (by omega), wl_eq]
    have w5 : σ1.l 94 (32 * (dp + 1) + 5) = Int32.toInt64 (Int32.ofNat 2) := by
      rw [hσ1, wl_ne (by omega), wl_eq]
      decide
    have w6 : σ1.l 94 (32 * (dp + 1) + 6) = Int32.toInt64 (Int32.ofNat 0) := by
      rw [hσ1, wl_eq]
      decide
    have fin : ∀ z : Int32, z = (if jnW W.2.1 c = 4 then 2147483647 else if jnW W.2.1 c = 2 then 1 else 0) → C_X4_beginInside_131 Z (e + 5) σ1 (Int32.ofNat (dp + 1) * 32) (Int32.ofNat (32 * (dp + 1) + 7)) 1 z Kx := by
      intro z hz
      refine T_X4_beginInside_131 (y1.fx A.fx) (T_X4_valueOf_0 (y1.fx A.fx) ?_)
      show ib (Int32.ofNat (32 * (dp + 1) + 7)) 832 ∧ cpb 0 (Int32.ofNat (dp + 1) * 32 + 8) 3 3 832 ∧ C_X4_goOnInside_0 Z (e + 4) ((σ1.wl 94 (Int32.ofNat (32 * (dp + 1) + 7)).toNatClampNeg (vlX 1 z)).cpL 95 ((0 : Int32).toNatClampNeg) 94 (Int32.ofNat (dp + 1) * 32 + 8).toNatClampNeg ((3 : Int32).toNatClampNeg)) _
      rw [z8, ft 7 (by decide), ft 8 (by decide)]
      obtain ⟨σ2, hσ2⟩ : ∃ y, y = ((σ1.wl 94 (32 * (dp + 1) + 7) (vlX 1 z)).cpL 95 ((0 : Int32).toNatClampNeg) 94 (32 * (dp + 1) + 8) ((3 : Int32).toNatClampNeg)) := ⟨_, rfl⟩
      rw [← hσ2]
      have l2 : ∀ a b, ¬ (a = 94 ∧ 32 * (dp + 1) + 7 ≤ b ∧ b < 32 * (dp + 1) + 11) → σ2.l a b = σ1.l a b := fun a b y => by
        rw [hσ2]
        show (if a = 94 ∧ 32 * (dp + 1) + 8 ≤ b ∧ b < 32 * (dp + 1) + 8 + 3 then (σ1.wl 94 (32 * (dp + 1) + 7) (vlX 1 z)).l 95 (0 + (b - (32 * (dp + 1) + 8))) else (σ1.wl 94 (32 * (dp + 1) + 7) (vlX 1 z)).l a b) = _
        rw [if_neg (by omega), wl_ne (by omega)]
      have w7 : σ2.l 94 (32 * (dp + 1) + 7) = vlX 1 z := by
        rw [hσ2]
        show (if 94 = 94 ∧ 32 * (dp + 1) + 8 ≤ 32 * (dp + 1) + 7 ∧ 32 * (dp + 1) + 7 < 32 * (dp + 1) + 8 + 3 then (σ1.wl 94 (32 * (dp + 1) + 7) (vlX 1 z)).l 95 (0 + (32 * (dp + 1) + 7 - (32 * (dp + 1) + 8))) else (σ1.wl 94 (32 * (dp + 1) + 7) (vlX 1 z)).l 94 (32 * (dp + 1) + 7)) = _
        rw [if_neg (by omega), wl_eq]
      have w8 : ∀ b, b < 3 → σ2.l 94 (32 * (dp + 1) + 8 + b) = σ.l 95 b := fun b hb => by
        rw [hσ2]
        show (if 94 = 94 ∧ 32 * (dp + 1) + 8 ≤ 32 * (dp + 1) + 8 + b ∧ 32 * (dp + 1) + 8 + b < 32 * (dp + 1) + 8 + 3 then (σ1.wl 94 (32 * (dp + 1) + 7) (vlX 1 z)).l 95 (0 + (32 * (dp + 1) + 8 + b - (32 * (dp + 1) + 8))) else (σ1.wl 94 (32 * (dp + 1) + 7) (vlX 1 z)).l 94 (32 * (dp + 1) + 8 + b)) = _
        rw [if_pos (by omega), wl_ne (by omega), l1 _ _ (by omega), Nat.add_sub_cancel_left, Nat.zero_add]
      have y2 : XF (fun a => a = 94 ∨ a = 95) σ σ2 := by
        refine ⟨?_, ?_, fun a q => ⟨?_, funext fun b => ?_⟩⟩
        · rw [hσ2]
          exact y1.1
        · rw [hσ2]
          exact y1.2.1
        · rw [hσ2]
          exact (y1.2.2 a q).1
        · rw [l2 a b (by omega), l1 a b (by omega)]
      have A2 := A.fr y2
      have g2 : MFr (dp + 2) (fun jj => jj < 32 * (dp + 1)) V V σ σ2 := (y2.mono (E' := mE) (fun a q => by unfold mE; omega)).mf _ _ (fun jj q => by rw [l2 94 jj (by omega), l1 94 jj (by omega)])
      have I2 : InS (dp + 1) bk H 2 0 (vlX 1 z) args σ2 := by
        refine ⟨?_, ?_, ?_, ?_, w7, fun b y hy => ?_⟩
        · rw [l2 _ _ (by omega), w0]
        · rw [l2 _ _ (by omega), w2]
        · rw [l2 _ _ (by omega), w5]
        · rw [l2 _ _ (by omega), w6]
        · have hb := (List.getElem?_eq_some_iff.mp hy).1
          rw [w8 b (by omega)]
          exact hg b y hy
      have C2 := hC.mf g2 (by omega)
      have K2 := hK.fr (g2.nvs x9)
      unfold inR at K2
      rw [if_neg (fun z => q z.2)] at K2
      refine ⟨fb 7 (by decide), ⟨by decide, ?_, by decide, by decide, ?_⟩, ?_⟩
      · rw [show Int32.ofNat (32 * (dp + 1) + 8) < 0 ↔ 32 * (dp + 1) + 8 < 0 from oN_lt (b := 0) (by omega) (by decide)]
        omega
      · rw [ft 8 (by decide)]
        show _ + 3 ≤ 832
        omega
      · refine gi_bf hEn X' (fun V' σ' S' tn' P' e' t' Kx' A' I' C' K' hx' => ?_) _ 0 V σ2 S tn P e _ (Nat.zero_add _) A2 I2 C2 K2 hx
        by_cases hj : jnW W.2.1 c = 0
        · have K' : McQ Z d C W wy a0 ch U f fuel (dp + 1) (Nv dp nv) V' σ' dp stk on lt bk j (if jnW W.2.1 c = 0 then bnR (en (c, R) 0 0 args on S') fun v S => ruD en (c, R) 3 args on (R 3).1.length S fun S => (.inl v, S) else jnR en (c, R) (jnW W.2.1 c) args on (R 0).1.length 0 (if jnW W.2.1 c = 2 then 1 else 0) S' fun v S => ruD en (c, R) 3 args on (R 3).1.length S fun S => (.inl (vlX 1 v), S)) K := K'
          rw [if_pos hj] at K'
          exact gi_pl hEn X' h0 hj A' I' C' K' hx'
        · have K' : McQ Z d C W wy a0 ch U f fuel (dp + 1) (Nv dp nv) V' σ' dp stk on lt bk j (if jnW W.2.1 c = 0 then bnR (en (c, R) 0 0 args on S') fun v S => ruD en (c, R) 3 args on (R 3).1.length S fun S => (.inl v, S) else jnR en (c, R) (jnW W.2.1 c) args on (R 0).1.length 0 (if jnW W.2.1 c = 2 then 1 else 0) S' fun v S => ruD en (c, R) 3 args on (R 3).1.length S fun S => (.inl (vlX 1 v), S)) K := K'
          rw [if_neg hj] at K'
          refine gi_jn hEn X' h0 ⟨hj, jn4⟩ _ 0 _ _ V' σ' S' tn' P' e' t' Kx' (Nat.zero_add _) ?_ (fun z => if_pos z) (fun z => if_neg (by omega)) A' I' C' K' hx'
          by_cases h4 : jnW W.2.1 c = 4
          · rw [if_pos h4] at hz
            exact Or.inr ⟨h4, rfl, by rw [hz]⟩
          · rw [if_neg h4] at hz
            exact Or.inl ⟨by rw [hz], fun z => absurd z h4⟩
    have en : ∀ a : Nat, a ≤ 4 → (Int32.ofNat (jnW W.2.1 c) = Int32.ofNat a ↔ jnW W.2.1 c = a) := fun a ha => oN_eq (by omega) (by omega)
    have e4 : Int32.ofNat (jnW W.2.1 c) = 4 ↔ jnW W.2.1 c = 4 := en 4 (by decide)
    have e2 : Int32.ofNat (jnW W.2.1 c) = 2 ↔ jnW W.2.1 c = 2 := en 2 (by decide)
    rw [e4, e2]
    refine ⟨fun q4 => ⟨fun q2 => fin 0 ?_, fun q2 => fin 1 ?_⟩, fun q4 => fin 2147483647 ?_⟩
    · rw [if_neg q4, if_neg q2]
    · rw [if_neg q4, if_pos q2]
    · rw [if_pos q4]
  · have hj : jnW W.2.1 c = 0 := by
      by_cases z : jnW W.2.1 c = 0
      · exact z
      · have := x2.2.2 z
        omega
    unfold inR at hK
    rw [if_pos ⟨hj, q⟩] at hK
    have A' : McA C W wy a0 ch U f fuel V S 0 P dp lt on (stk ++ []) tn (j + 1 + 1) σ := by
      rw [List.append_nil]
      exact A
    exact hx _ (pf_fault (q := 2) (A'.less (by omega)) (by decide) x1.2.2 hK (MFr.refl _ _ _ _))
end INS3

/-! THE CLASS: who asks more -/
noncomputable def akN (W : Wld) (m n : Nat) (k : Nat → Nat) : Int := akI (plW W.2.1 (mcW W.2.2.2 m)) (blW W.1) k (spM W.2.2.2 m, tsM W.2.2.2 m) (spM W.2.2.2 n, tsM W.2.2.2 n)
def itM (W : Wld) (k : Nat → Nat) (m : Nat) : Nat := itF (blW W.1) k (lvT (tsM W.2.2.2 m)) (lvT (tsM W.2.2.2 m)).length
def kyW (W : Wld) (m n : Nat) (k : Nat → Nat) : Nat := (64 + itM W k m) * 64 + itM W k n
/-- what is settled already of two methods, as it is kept -/
def SeT (W : Wld) (m n : Nat) (v : Int32) : Prop := v = 0 ∨ (1 ≤ m ∧ m ≤ W.2.2.2.length) ∧ (1 ≤ n ∧ n ≤ W.2.2.2.length) ∧ mcW W.2.2.2 m = mcW W.2.2.2 n ∧ ∃ k, (∀ p, p < plW W.2.1 (mcW W.2.2.2 m) → k p < W.1.length) ∧ v = Int32.ofNat (4 * kyW W m n k + (akN W m n k + 1).toNat)
/-- the square of pairs: its side, where it lies -/
def NgS (e : Nat) (σ : Sg) : Prop := (3 ≤ e ∧ e ≤ 7) ∧ σ.i 46 2 = Int32.ofNat (2 ^ e) ∧ σ.r 46 3 = Rf.ptr (sqA σ) ∧ σ.sh[sqA σ]? = some (Sh.arr 0 (2 ^ e * 2 ^ e)) ∧ (sqA σ = 47 ∨ 102 ≤ sqA σ)
def NcS (W : Wld) (σ : Sg) : Prop := ∃ e, NgS e σ ∧ ∀ m n, m < 2 ^ e → n < 2 ^ e → SeT W m n (σ.i (sqA σ) (m * 2 ^ e + n))
def NeS (W : Wld) (σ : Sg) : Prop := Rw0 48 σ ∧ NcS W σ
/-- what nearness may change -/
def neE (σ : Sg) (a : Nat) : Prop := (46 ≤ a ∧ a ≤ 55) ∨ a = sqA σ
def NhF (σ τ : Sg) : Prop := GnF (neE σ) σ τ ∧ (sqA τ = sqA σ ∨ σ.sh.length ≤ sqA τ) ∧ SzH σ τ 0 0
theorem spM_at {ms : List (Mtd × Bool)} {j : Nat} {x : Mtd × Bool} (h : ms[j]? = some x) : spM ms (j + 1) = x.1.2.2.2.1 ∧ tsM ms (j + 1) = x.1.2.2.2.2.1 ∧ mcW ms (j + 1) = x.1.1.toNat := by
  unfold spM tsM mcW
  rw [Nat.add_sub_cancel, h]
  exact ⟨rfl, rfl, rfl⟩
section NEAR2
variable {Z : zT} {d A : Nat} {as : List AkQ} {q : AkQ} {σ τ υ : Sg} {K : kS} {C : Nat × Nat × Nat × Nat} {W : Wld} {a0 j j' kA pl w : Nat} {k : Nat → Nat} {x x' : Mtd × Bool} {y : Nat → Int} {β : Nat → Bool} {v : Nat → Int}
theorem SkR.plx (h : SkR C W a0 σ) (hx : W.2.2.2[j]? = some x) : plW W.2.1 x.1.1.toNat ≤ 3 ∧ x.1.2.2.2.1.length = plW W.2.1 x.1.1.toNat ∧ (x.1.2.2.2.2.1 = .nil ∨ tsW W.1.length (plW W.2.1 x.1.1.toNat) x.1.2.2.2.2.1) ∧ x.1.1.toNat < W.2.1.length ∧ 1 ≤ plW W.2.1 x.1.1.toNat := by
  obtain ⟨k0, w1, w2, w3, w4, w5, w6, w7, -⟩ := (h.at hx).2.2
  rw [w1, Int.toNat_natCast]
  have e : plW W.2.1 k0 = (W.2.1[k0]).2.1 := by
    unfold plW
    rw [List.getElem?_eq_getElem w2]
    rfl
  have := (h.2.2.2.1.2 k0 _ (List.getElem?_eq_getElem w2)).2
  rw [← e] at this
  exact ⟨this.2, w5, w7, w2, this.1⟩
/-- how much is asked -/
theorem cl_asked (h : SkR C W a0 σ) (hx : W.2.2.2[j]? = some x) (kk : K (.inl (some (.int (Int32.ofNat (asQ (blW W.1) k x.1.2.2.2.1 x.1.2.2.2.2.1).length)))) σ) : C_X5_asked_0 Z (d + 1) σ (Int32.ofNat (j + 1)) K := by
  obtain ⟨hj, mt, wf⟩ := h.at hx
  obtain ⟨t1, t2, t3, t4, t5⟩ := mt.2.2.2.2.1
  have st : ∀ p n, p < 3 → n < 100 → C_X5_asked_9 Z (d + 1) σ (Int32.ofNat (j + 1)) (Int32.ofNat (n + (eqA x.1.2.2.2.1 p).length)) (Int32.ofNat (p + 1)) K → C_X5_asked_9 Z (d + 1) σ (Int32.ofNat (j + 1)) (Int32.ofNat n) (Int32.ofNat p) K := fun p n hp hn kp => by
    obtain ⟨c1, c2, c3⟩ := mt.2.2.2.1 p hp
    refine T_X5_asked_9 h.1 ?_
    rw [show (3 : Int32) ≤ Int32.ofNat p ↔ 3 ≤ p from oN_le (a := 3) (by decide) (by omega), show (3 : Int32) = Int32.ofNat 3 from rfl, oN_mul, oN_add, oN_t (by omega), show (j + 1) * 3 + p = 3 * (j + 1) + p by omega, c2, oN_1, oN_1]
    rw [eqA_len] at kp
    have e : hsI x.1.2.2.2.1 p = (x.1.2.2.2.1.getD p (0, false, 0)).2.1 := rfl
    rw [e] at kp
    refine ⟨fun z => absurd z (by omega), fun _ => ⟨ib_oN (by omega) (by decide), fun z => ?_, fun z => ?_⟩⟩
    · by_cases hh : (x.1.2.2.2.1.getD p (0, false, 0)).2.1 = true
      · rw [if_pos hh] at z
        exact absurd z (by decide)
      · rw [if_neg hh] at kp
        exact kp
    · by_cases hh : (x.1.2.2.2.1.getD p (0, false, 0)).2.1 = true
      · rw [if_pos hh] at kp
        exact kp
      · rw [if_neg hh] at z
        exact absurd rfl z
  have l3 : ∀ p, (eqA x.1.2.2.2.1 p).length ≤ 1 := fun p => by
    rw [eqA_len]
    split <;> omega
  have a0' := l3 0
  have a1 := l3 1
  have a2 := l3 2
  refine T_X5_asked_0 h.1 ?_
  rw [oN_t (by omega), t1]
  refine ⟨ib_oN (by omega) (by decide), ?_⟩
  refine st 0 _ (by omega) (by omega) (st 1 _ (by omega) (by omega) (st 2 _ (by omega) (by omega) (T_X5_asked_9 h.1 ⟨fun _ => ?_, fun z => absurd (by decide) z⟩)))
  unfold asQ at kk
  rw [List.length_append, List.length_append, List.length_append, List.length_map, t3] at kk
  rw [show lfN x.1.2.2.2.2.1 + (eqA x.1.2.2.2.1 0).length + (eqA x.1.2.2.2.1 1).length + (eqA x.1.2.2.2.1 2).length = (eqA x.1.2.2.2.1 0).length + ((eqA x.1.2.2.2.1 1).length + ((eqA x.1.2.2.2.1 2).length + lfN x.1.2.2.2.2.1)) by omega]
  exact kk
theorem it_14C (hx : W.2.2.2[j]? = some x) (hpl : plW W.2.1 x.1.1.toNat = pl) (h : SkR C W a0 σ) (ka : KaS W kA pl k σ) (kk : K (.inl (some (.int (Int32.ofNat (itM W k (j + 1)))))) σ) : ∀ n i, i + n = (lvT x.1.2.2.2.2.1).length → C_X6_isTests_14 Z (d + 2) σ (Int32.ofNat (j + 1)) kA (Int32.ofNat (itF (blW W.1) k (lvT x.1.2.2.2.2.1) i)) (Int32.ofNat i) K := by
  obtain ⟨hj, mt, wf⟩ := h.at hx
  obtain ⟨t1, t2, t3, t4, t5⟩ := mt.2.2.2.2.1
  have w7 := (h.plx hx).2.2.1
  rw [hpl] at w7
  have p3 := (h.plx hx).1
  rw [hpl] at p3
  intro n
  induction n with
  | zero =>
    intro i hi
    refine T_X6_isTests_14 h.1 ?_
    rw [oN_t (by omega), t1, oN_le (by omega) (by omega)]
    refine ⟨ib_oN (by omega) (by decide), fun _ => ?_, fun z => absurd (by omega) z⟩
    unfold itM at kk
    rw [(spM_at hx).2.1, ← hi] at kk
    exact kk
  | succ n ih =>
    intro i hi
    have ih := ih (i + 1) (by omega)
    obtain ⟨l, hl⟩ : ∃ l, (lvT x.1.2.2.2.2.1)[i]? = some l := ⟨_, List.getElem?_eq_getElem (by omega)⟩
    have hm := List.mem_of_getElem? hl
    have tw : tsW W.1.length pl x.1.2.2.2.2.1 := by
      rcases w7 with e | e
      · rw [e] at hm
        cases hm
      · exact e
    have lt := itF_lt (bl := blW W.1) (k := k) (lvT x.1.2.2.2.2.1) i
    rw [itF, hl, Option.map_some, Option.getD_some] at ih
    refine T_X6_isTests_14 h.1 ?_
    rw [oN_t (by omega), t1, oN_le (by omega) (by omega), show (6 : Int32) = Int32.ofNat 6 from rfl, oN_mul, oN_add, oN_t (by omega), show (j + 1) * 6 + i = 6 * (j + 1) + i by omega, oN_1, bit_or' (by omega) lt]
    refine ⟨ib_oN (by omega) (by decide), fun z => absurd z (by omega), fun _ => ⟨ib_oN (by omega) (by decide), ?_⟩⟩
    rcases t4 i l hl with ⟨ty, pa, pb, mo, el, f1, -⟩ | ⟨kd, v, el, f1, f2, f3, f4⟩
    · have e : itB (blW W.1) k l = false := by rw [el]; rfl
      rw [e, if_neg (by decide)] at ih
      refine ⟨fun _ => ih, fun z => ?_⟩
      rw [f1] at z
      split at z <;> exact absurd z (by decide)
    · rcases lv_c _ tw l hm with ⟨y, w, pb', mo', e2, -⟩ | ⟨y, w, e2, h1, h2⟩
      · rw [el] at e2
        injection e2 with e2 _
        exact absurd e2 (by decide)
      · rw [el] at e2
        injection e2 with _ e2
        injection e2 with e3 e2
        injection e2 with e4 e2
        subst e3 e4
        obtain ⟨⟨nn, n3, hs⟩, hkk⟩ := ka
        obtain ⟨kp, kl⟩ := hkk v.toNat (by omega)
        have l24 := h.2.1.2.1
        have e : itB (blW W.1) k l = blW W.1 (k v.toNat) kd.toNat := by rw [el]; rfl
        rw [e] at ih
        refine ⟨fun z => absurd f1 z, fun _ => ⟨ib_oN (by omega) (by decide), nn, hs, ?_⟩⟩
        rw [f2, f3, show v + 1 = ((v.toNat + 1 : Nat) : Int) by omega, show kd = ((kd.toNat : Nat) : Int) by omega]
        have em : Int32.ofInt ((v.toNat + 1 : Nat) : Int) - 1 = Int32.ofNat v.toNat := oN_p1 (m := v.toNat + 1) (by omega)
        rw [em, oN_t (by omega), kp]
        refine ⟨ib_i (by rw [oN_i (by omega)]; omega) (by rw [oN_i (by omega)]; omega), ib_oN (by omega) (by decide), ?_⟩
        refine cl_below (k := k v.toNat) (y := kd.toNat) h kl (by omega) ?_
        by_cases hb' : kd.toNat ∈ rwW W.1 1 (k v.toNat)
        · have eb : blW W.1 (k v.toNat) kd.toNat = true := decide_eq_true hb'
          rw [eb, if_pos rfl] at ih
          rw [if_pos hb']
          exact ⟨fun z => absurd z (by decide), fun _ => ih⟩
        · have eb : blW W.1 (k v.toNat) kd.toNat = false := decide_eq_false hb'
          rw [eb, if_neg (by decide)] at ih
          rw [if_neg hb']
          exact ⟨fun _ => ih, fun z => absurd rfl z⟩
theorem cl_isTests (hx : W.2.2.2[j]? = some x) (hpl : plW W.2.1 x.1.1.toNat = pl) (h : SkR C W a0 σ) (ka : KaS W kA pl k σ) (kk : K (.inl (some (.int (Int32.ofNat (itM W k (j + 1)))))) σ) : C_X6_isTests_0 Z (d + 2) σ (Int32.ofNat (j + 1)) kA K := T_X6_isTests_0 h.1 (it_14C hx hpl h ka kk _ 0 (Nat.zero_add _))
theorem itM_lt (h : SkR C W a0 σ) (hx : W.2.2.2[j]? = some x) : itM W k (j + 1) < 64 := by
  obtain ⟨hj, mt, wf⟩ := h.at hx
  obtain ⟨t1, t2, t3, t4, t5⟩ := mt.2.2.2.2.1
  have := itF_lt (bl := blW W.1) (k := k) (lvT x.1.2.2.2.2.1) (lvT x.1.2.2.2.2.1).length
  unfold itM
  rw [(spM_at hx).2.1]
  exact Nat.lt_of_lt_of_le this (Nat.pow_le_pow_right (by decide) (show _ ≤ 6 by omega))
/-- no cut yet -/
theorem cl_begin9 (hA : SpA A) (F : FX ΦC σ.sh σ.r) (S : SpS A as σ) (r0 : Rw0 A σ) (kk : ∀ τ, NxF A σ τ → SpQ A (cuL as) (fun _ => True) τ → K (.inl none) τ) : C_X9_begin_0 Z (d + 1) σ A K := by
  have g : NxF A σ (((σ.wi A 10 (0 : Int32)).wi (A + 6) 0 (0 : Int32)).wl A 11 (0 : Int64)) := by
    have g1 := ((NxF.refl A σ).w10 (v := 0)).w6 (k := 0) (v := 0)
    exact ⟨g1.1.wl (Or.inl rfl), g1.2.1, fun j hj => (wl_ne (by omega)).trans (g1.2.2 j hj)⟩
  refine T_X9_begin_0 F hA.p (kk _ g ⟨⟨F, S.1.nx g, r0.nx g⟩, Or.inl ⟨fun _ => false, 0, 0, by omega, fun _ => rfl, ⟨F, S.1.nx g, ⟨(wi_ne (by omega)).trans (wi_at ..), Nat.zero_le _⟩, fun l hl => absurd hl (Nat.not_lt_zero _), wi_at .., fun l hl i j hi hj => ?_, fun l hl => absurd hl (Nat.not_lt_zero _), fun l hl => absurd hl (Nat.not_lt_zero _)⟩, fun x _ => ⟨fun _ => tc_all, fun _ => trivial⟩⟩⟩)
  have : l = 0 := by omega
  subst this
  have := r0.nx g i j hi hj
  rw [show 16 * 0 + 4 * i + j = 4 * i + j by omega]
  exact this
theorem SpS.nx (S : SpS A as σ) (g : NxF A σ τ) : SpS A as τ := by
  refine ⟨S.1.nx g, ⟨(g.2.1 3 (by decide)).trans S.2.1.1, S.2.1.2⟩, fun k q hq => ?_⟩
  have e : ∀ a, a = A + 1 ∨ a = A + 2 → τ.i a = σ.i a := fun a ha => (g.1.2.2 a (by omega)).1
  rw [e (A + 1) (by omega), e (A + 2) (by omega)]
  exact S.2.2 k q hq
theorem cl_empty9 (hA : SpA A) (F : FX ΦC σ.sh σ.r) (kk : ∀ τ, AcF A σ τ → SpS A [] τ → K (.inl none) τ) : C_X9_empty_0 Z (d + 1) σ A K := by
  refine T_X9_empty_0 F hA.p (kk _ (((AcF.refl A σ).wA (by omega)).wA (by omega)) ⟨⟨⟨wi_at .., by decide⟩, fun k q hq => ?_⟩, ⟨(wi_ne (by omega)).trans (wi_at ..), by decide⟩, fun k q hq => ?_⟩)
  · cases hq
  · cases hq
theorem Rw0.ac (h : Rw0 A σ) (g : AcF A σ τ) : Rw0 A τ := fun i j hi hj => by
  rw [(g.1.2.2 (A + 7) (by omega)).2]
  exact h i j hi hj
theorem vx_of {y : Nat → Int} (h : PtW y) : ∃ v, vx v = y ∧ InR v := ⟨fun i => y (i + 1), funext fun i => by
  cases i with
  | zero => exact h.1.symm
  | succ i => rfl, fun i hi => h.2 (i + 1) (by omega) (by omega)⟩
theorem pt_vx {v : Nat → Int} (h : InR v) : PtW (vx v) := ⟨rfl, fun k h1 h2 => by
  have := h (k - 1) (by omega)
  unfold vx
  rw [if_neg (by omega)]
  exact this⟩
/-- numbers seen so far: whether one is found that f takes and g doesn't -/
def FdI (f g : (Nat → Int) → Bool) (P : (Nat → Int) → Prop) (a : Bool) : Prop := (a = true → ∃ v, InR v ∧ f v = true ∧ g v = false) ∧ (a = false → ∀ v, InR v → ¬ P (vx v) → ¬ (f v = true ∧ g v = false))
theorem FdI.nx {f g : (Nat → Int) → Bool} {P P' : (Nat → Int) → Prop} {a : Bool} {cs : List Cut} {v0 : Nat → Int} (h : FdI f g P a) (h0 : InR v0) (hP : ∀ x, PtW x → (P x ↔ agB cs β cs.length x ∨ P' x)) (hf : ∀ v, agB cs β cs.length (vx v) → f v = f v0 ∧ g v = g v0) : FdI f g P' (a || (f v0 && !g v0)) := by
  refine ⟨fun e => ?_, fun e v hv hn => ?_⟩
  · rw [Bool.or_eq_true, Bool.and_eq_true, Bool.not_eq_true'] at e
    rcases e with e | e
    · exact h.1 e
    · exact ⟨v0, h0, e⟩
  · rw [Bool.or_eq_false_iff, Bool.and_eq_false_iff, Bool.not_eq_false'] at e
    by_cases hp : P (vx v)
    · rcases (hP _ (pt_vx hv)).mp hp with q | q
      · obtain ⟨e1, e2⟩ := hf v q
        rw [e1, e2]
        rintro ⟨z1, z2⟩
        rcases e.2 with z | z
        · rw [z1] at z
          cases z
        · rw [z2] at z
          cases z
      · exact absurd q hn
    · exact h.2 e.1 v hv hp
theorem i01 (b : Bool) : ((if b = true then (1 : Int32) else 0) = 0 ↔ b = false) := by
  cases b
  · exact ⟨fun _ => rfl, fun _ => rfl⟩
  · exact ⟨fun z => absurd z (by decide), fun z => by cases z⟩
/-- the loop over cells -/
theorem wa_134 {l4 l5 : Int32} {nf : Nat} {f g : (Nat → Int) → Bool} (hW : AkW as) (hx : W.2.2.2[j]? = some x) (hx' : W.2.2.2[j']? = some x') (hpl : plW W.2.1 x.1.1.toNat = pl) (hpl' : plW W.2.1 x'.1.1.toNat = pl)
    (ef : f = tkM pl x.1.2.2.2.1 (blW W.1) k x.1.2.2.2.2.1) (eg : g = tkM pl x'.1.2.2.2.1 (blW W.1) k x'.1.2.2.2.2.1)
    (ea : as = asQ (blW W.1) k x.1.2.2.2.1 x.1.2.2.2.2.1 ++ asQ (blW W.1) k x'.1.2.2.2.1 x'.1.2.2.2.2.1) (en : nf = (asQ (blW W.1) k x.1.2.2.2.1 x.1.2.2.2.2.1).length)
    (σ0 : Sg) (kk : ∀ τ a b, NxF 48 σ0 τ → a = pD (∃ v, InR v ∧ f v = true ∧ g v = false) → b = pD (∃ v, InR v ∧ g v = true ∧ f v = false) → C_X6_whoAsksMore_235 Z (d + 3) τ l4 l5 (if a = true then 1 else 0) (if b = true then 1 else 0) K) :
    ∀ (m c : Nat) (a b : Bool) (P : (Nat → Int) → Prop) (σ : Sg), 1000000 - c ≤ m → SkR C W a0 σ → NxF 48 σ0 σ → SpS 48 as σ → SpQ 48 (cuL as) P σ → SnC (cuL as) P c → FdI f g P a → FdI g f P b → C_X6_whoAsksMore_134 Z (d + 3) σ (Int32.ofNat (j + 1)) (Int32.ofNat (j' + 1)) l4 l5 0 (Int32.ofNat nf) (if a = true then 1 else 0) (if b = true then 1 else 0) (Int32.ofNat c) K := by
  have fin : ∀ {f g : (Nat → Int) → Bool} {P : (Nat → Int) → Prop} {a : Bool}, FdI f g P a → (a = true ∨ ∀ x, PtW x → ¬ P x) → a = pD (∃ v, InR v ∧ f v = true ∧ g v = false) := fun {f g P a} h q => by
    cases a with
    | true => exact (pD_iff.mpr (h.1 rfl)).symm
    | false =>
      rcases q with q | q
      · cases q
      · symm
        rw [← Bool.not_eq_true, pD_iff]
        rintro ⟨v, h1, h2⟩
        exact h.2 rfl v h1 (q _ (pt_vx h1)) h2
  intro m
  induction m with
  | zero =>
    intro c a b P σ hm h fr S Q sn ha hb
    have := sn.lt Q.1.2.1.1.2
    omega
  | succ m ih =>
    intro c a b P σ hm h fr S Q sn ha hb
    have cl := sn.lt Q.1.2.1.1.2
    have go : C_X6_whoAsksMore_151 Z (d + 3) σ (Int32.ofNat (j + 1)) (Int32.ofNat (j' + 1)) l4 l5 0 (Int32.ofNat nf) (if a = true then 1 else 0) (if b = true then 1 else 0) (Int32.ofNat c) K := by
      refine T_X6_whoAsksMore_151 h.1 (cl_nextC (Or.inl rfl) (cuL_W hW) Q ?_ ?_)
      · intro τ β P' f1 ce hP hd Q'
        refine ⟨fun z => absurd z (by decide), fun _ => ?_⟩
        obtain ⟨y0, p0, ag0⟩ := ne_ex (cuL_W hW) (Nat.le_refl _) ce.2
        obtain ⟨v0, rfl, r0⟩ := vx_of p0
        have h' : SkR C W a0 τ := h.xf (f1.1.mono (E' := fun a => 46 ≤ a ∧ a ≤ 101) (fun a q => by omega)) (fun a q => q)
        have S' := S.nx f1
        have cv : CeV 48 as (vx v0) τ := ce.cv ag0
        have hf : ∀ v, agB (cuL as) β (cuL as).length (vx v) → f v = f v0 ∧ g v = g v0 := fun v hv => by
          have e : ∀ l, l < (cuL as).length → cuB (cuL as) (vx v) l = cuB (cuL as) (vx v0) l := fun l hl => (hv l hl).trans (ag0 l hl).symm
          have p1 := h.plx hx
          have p2 := h.plx hx'
          rw [hpl] at p1
          rw [hpl'] at p2
          rw [ef, eg]
          exact ⟨tk_ce p1.2.2.1 p1.1 (fun q hq => by rw [ea]; exact List.mem_append_left _ hq) e, tk_ce p2.2.2.1 p2.1 (fun q hq => by rw [ea]; exact List.mem_append_right _ hq) e⟩
        refine cl_taken (pre := []) (rest := asQ (blW W.1) k x'.1.2.2.2.1 x'.1.2.2.2.2.1) (Or.inl rfl) h' hx hpl S' cv ea ?_
        rw [← congrFun ef v0]
        rw [en]
        refine cl_taken (pre := asQ (blW W.1) k x.1.2.2.2.1 x.1.2.2.2.2.1) (rest := []) (Or.inl rfl) h' hx' hpl' S' cv (by rw [ea, List.append_nil]) ?_
        rw [← congrFun eg v0, ← en]
        have nx := ih (c + 1) (a || (f v0 && !g v0)) (b || (g v0 && !f v0)) P' τ (by omega) h' (fr.tr f1) S' Q' (sn.one (cuL_W hW) Q.1.2.1.1.2 ce.2 hP hd) (ha.nx r0 hP hf) (hb.nx r0 hP (fun v hv => ⟨(hf v hv).2, (hf v hv).1⟩))
        have F' := h'.1
        generalize f v0 = fm at nx ⊢
        generalize g v0 = gm at nx ⊢
        have n205 : ∀ s : Bool, s = (a || (fm && !gm)) → C_X6_whoAsksMore_205 Z (d + 3) τ (Int32.ofNat (j + 1)) (Int32.ofNat (j' + 1)) l4 l5 0 (Int32.ofNat nf) (if b = true then 1 else 0) (Int32.ofNat c) (if fm = true then 1 else 0) (if gm = true then 1 else 0) (if s = true then 1 else 0) K := fun s es => by
          rw [← es] at nx
          refine T_X6_whoAsksMore_205 F' ?_
          rw [oN_1, i01, i01, i01]
          revert nx
          cases b <;> cases gm <;> cases fm <;> intro nx <;> simp only [Bool.false_eq_true, if_false, if_true, Bool.true_or, Bool.false_or, Bool.not_true, Bool.not_false, Bool.and_true, Bool.and_false, Bool.true_and, Bool.false_and, reduceCtorEq] at nx ⊢ <;> simp only [true_implies, false_implies, not_true, not_false_iff, and_true, true_and] <;> exact nx
        show (¬ (if a = true then (1 : Int32) else 0) = 0 → _) ∧ ((if a = true then (1 : Int32) else 0) = 0 → ((if fm = true then (1 : Int32) else 0) = 0 → _) ∧ (¬ (if fm = true then (1 : Int32) else 0) = 0 → (¬ (if gm = true then (1 : Int32) else 0) = 0 → _) ∧ ((if gm = true then (1 : Int32) else 0) = 0 → _)))
        rw [i01, i01, i01]
        cases a with
        | true => exact ⟨fun _ => T_X6_whoAsksMore_200 F' (n205 true rfl), fun z => by cases z⟩
        | false =>
          refine ⟨fun z => absurd rfl z, fun _ => ⟨fun z => ?_, fun z => ⟨fun z' => ?_, fun z' => ?_⟩⟩⟩
          · subst z
            exact T_X6_whoAsksMore_204 F' (n205 false (by cases gm <;> rfl))
          · have e1 : gm = true := by cases gm; exact absurd rfl z'; rfl
            subst e1
            exact T_X6_whoAsksMore_204 F' (n205 false (by cases fm <;> rfl))
          · have e1 : fm = true := by cases fm; exact absurd rfl z; rfl
            subst e1
            subst z'
            exact T_X6_whoAsksMore_200 F' (n205 true rfl)
      · intro τ f1 no Q'
        exact ⟨fun _ => kk τ a b (fr.tr f1) (fin ha (Or.inr no)) (fin hb (Or.inr no)), fun z => absurd rfl z⟩
    refine T_X6_whoAsksMore_134 h.1 ?_
    rw [show (1000000 : Int32) ≤ Int32.ofNat c ↔ 1000000 ≤ c from oN_le (a := 1000000) (by decide) (by omega), i01, i01]
    refine ⟨fun z => absurd z (by omega), fun _ => ⟨fun _ => go, fun z => ⟨fun z' => ?_, fun _ => go⟩⟩⟩
    have e1 : a = true := by cases a; exact absurd rfl z; rfl
    have e2 : b = true := by cases b; exact absurd rfl z'; rfl
    exact kk σ a b fr (fin ha (Or.inl e1)) (fin hb (Or.inl e2))
end NEAR2

/-! ORDERS OF PLACES -/
def opP (pl o j : Nat) : Nat := if pl = 1 then 0 else if pl = 2 then (if o = 0 then j else 1 - j) else if j = 0 then o / 2 else if (decide (o % 2 = 0) == decide (j = 1)) = true then (if o / 2 = 0 then 1 else 0) else (if o / 2 = 2 then 1 else 2)
def ocN (pl : Nat) : Nat := if pl = 1 then 1 else if pl = 2 then 2 else 6
section PLACE2
variable {Z : zT} {d : Nat} {σ : Sg} {K : kS}
theorem rf_placeO {pl o j : Nat} (F : FX ΦR σ.sh σ.r) (hp : 1 ≤ pl ∧ pl ≤ 3) (ho : o < ocN pl) (hj : j < pl) (h : K (.inl (some (.int (Int32.ofNat (opP pl o j))))) σ) : B_X23_place_0 Z (d + 1) σ (Int32.ofNat pl) (Int32.ofNat o) (Int32.ofNat j) K := by
  have ho6 : o < 6 := by
    unfold ocN at ho
    split at ho
    · omega
    · split at ho <;> omega
  refine S_X23_place_0 F ⟨fun z => ⟨fun y => ?_, fun y => ⟨fun w => ?_, fun w => ?_⟩⟩, fun z => ?_⟩
  · have z : pl ≠ 1 := fun q => z (by rw [q]; rfl)
    have y : pl ≠ 2 := fun q => y (by rw [q]; rfl)
    have hpl : pl = 3 := by omega
    subst hpl
    have e2 : ∀ x : Fin 6, Int32.ofNat x.val / 2 = Int32.ofNat (x.val / 2) := by decide +kernel
    have er : ∀ x : Fin 6, (irm (Int32.ofNat x.val) 2 = 0) ↔ x.val % 2 = 0 := by decide +kernel
    have eo := e2 ⟨o, ho6⟩
    have eo : Int32.ofNat o / 2 = Int32.ofNat (o / 2) := eo
    have eq := er ⟨o, ho6⟩
    have eq : (irm (Int32.ofNat o) 2 = 0) ↔ o % 2 = 0 := eq
    unfold opP at h
    rw [if_neg (by decide), if_neg (by decide)] at h
    have p68 : ∀ (lo hi s : Nat), s ≤ 1 → (j ≠ 0 → K (.inl (some (.int (Int32.ofNat (if (decide (s = 1) == decide (j = 1)) = true then lo else hi))))) σ) → j ≠ 0 → B_X23_place_68 Z (d + 1) σ (Int32.ofNat j) (Int32.ofNat lo) (Int32.ofNat hi) (Int32.ofNat s) K := by
      intro lo hi s hs hk hj0
      have hk := hk hj0
      refine S_X23_place_68 F ⟨fun a => ⟨fun b => ?_, fun b => ?_⟩, fun a => ⟨fun b => ?_, fun b => ?_⟩⟩
      · have a : j ≠ 1 := fun q => a (by rw [q]; rfl)
        have b : s ≠ 0 := fun q => b (by rw [q]; rfl)
        rw [decide_eq_false a, decide_eq_true (show s = 1 by omega)] at hk
        exact hk
      · have a : j ≠ 1 := fun q => a (by rw [q]; rfl)
        rw [show (0 : Int32) = Int32.ofNat 0 from rfl, oN_eq (by omega) (by omega)] at b
        rw [decide_eq_false a, decide_eq_false (show ¬ s = 1 by omega)] at hk
        exact hk
      · rw [show (1 : Int32) = Int32.ofNat 1 from rfl, oN_eq (by omega) (by omega)] at a
        have b : s ≠ 1 := fun q => b (by rw [q]; rfl)
        rw [decide_eq_true a, decide_eq_false b] at hk
        exact hk
      · rw [show (1 : Int32) = Int32.ofNat 1 from rfl, oN_eq (by omega) (by omega)] at a
        rw [show (1 : Int32) = Int32.ofNat 1 from rfl, oN_eq (by omega) (by omega)] at b
        rw [decide_eq_true a, decide_eq_true b] at hk
        exact hk
    have p49 : ∀ lo hi : Nat, (if o / 2 = 0 then 1 else 0) = lo → (if o / 2 = 2 then 1 else 2) = hi → B_X23_place_49 Z (d + 1) σ (Int32.ofNat o) (Int32.ofNat j) (Int32.ofNat (o / 2)) (Int32.ofNat lo) (Int32.ofNat hi) K := by
      intro lo hi hlo hhi
      rw [hlo, hhi] at h
      refine S_X23_place_49 F ⟨fun a => ⟨fun b => ?_, fun b => ?_⟩, fun a => ?_⟩
      · have a : j ≠ 0 := fun q => a (by rw [q]; rfl)
        rw [eq] at b
        refine p68 lo hi 0 (by omega) (fun _ => ?_) a
        rw [if_neg a, decide_eq_false b] at h
        exact h
      · have a : j ≠ 0 := fun q => a (by rw [q]; rfl)
        rw [eq] at b
        refine p68 lo hi 1 (by omega) (fun _ => ?_) a
        rw [if_neg a, decide_eq_true b] at h
        exact h
      · rw [show (0 : Int32) = Int32.ofNat 0 from rfl, oN_eq (by omega) (by omega)] at a
        rw [if_pos a] at h
        exact h
    have p37 : ∀ lo : Nat, (if o / 2 = 0 then 1 else 0) = lo → B_X23_place_37 Z (d + 1) σ (Int32.ofNat o) (Int32.ofNat j) (Int32.ofNat (o / 2)) (Int32.ofNat lo) K := by
      intro lo hlo
      refine S_X23_place_37 F ⟨fun a => p49 lo 2 hlo ?_, fun a => p49 lo 1 hlo ?_⟩
      · rw [if_neg (fun q => a (by rw [q]; rfl))]
      · rw [show (2 : Int32) = Int32.ofNat 2 from rfl, oN_eq (by omega) (by omega)] at a
        rw [if_pos a]
    rw [eo]
    refine ⟨fun a => p37 0 ?_, fun a => p37 1 ?_⟩
    · rw [if_neg (fun q => a (by rw [q]; rfl))]
    · rw [show (0 : Int32) = Int32.ofNat 0 from rfl, oN_eq (by omega) (by omega)] at a
      rw [if_pos a]
  · rw [show (2 : Int32) = Int32.ofNat 2 from rfl, oN_eq (by omega) (by omega)] at y
    have w : o ≠ 0 := fun q => w (by rw [q]; rfl)
    unfold opP at h
    rw [if_neg (by omega), if_pos y, if_neg w] at h
    have : ∀ x : Fin 2, (1 : Int32) - Int32.ofNat x.val = Int32.ofNat (1 - x.val) := by decide +kernel
    rw [show (1 : Int32) - Int32.ofNat j = Int32.ofNat (1 - j) from this ⟨j, by omega⟩]
    exact h
  · rw [show (2 : Int32) = Int32.ofNat 2 from rfl, oN_eq (by omega) (by omega)] at y
    rw [show (0 : Int32) = Int32.ofNat 0 from rfl, oN_eq (by omega) (by omega)] at w
    unfold opP at h
    rw [if_neg (by omega), if_pos y, if_pos w] at h
    exact h
  · rw [show (1 : Int32) = Int32.ofNat 1 from rfl, oN_eq (by omega) (by omega)] at z
    unfold opP at h
    rw [if_pos z] at h
    exact h
theorem opP_all : ∀ pl : Fin 4, ∀ o : Fin 6, 1 ≤ pl.val → o.val < ocN pl.val → (∀ j : Fin 3, j.val < pl.val → opP pl.val o.val j.val < pl.val) ∧ (∀ i : Fin 3, i.val < pl.val → ∃ j : Fin 3, j.val < pl.val ∧ opP pl.val o.val j.val = i.val) ∧ (∀ i j : Fin 3, i.val < pl.val → j.val < pl.val → opP pl.val o.val i.val = opP pl.val o.val j.val → i = j) := by decide +kernel
theorem opP_lt {pl o j : Nat} (hp : 1 ≤ pl ∧ pl ≤ 3) (ho : o < ocN pl) (hj : j < pl) : opP pl o j < pl := by
  have ho6 : o < 6 := by
    unfold ocN at ho
    split at ho
    · omega
    · split at ho <;> omega
  exact (opP_all ⟨pl, by omega⟩ ⟨o, ho6⟩ hp.1 ho).1 ⟨j, by omega⟩ hj
end PLACE2
/-! what matters at a place of an order -/
def rsS (W : Wld) (c o j0 m : Nat) : Bool := (List.range (plW W.2.1 c)).all fun j => decide (j ≤ j0) || anS W c (opP (plW W.2.1 c) o j) m
def vrS (W : Wld) (c i m : Nat) : Bool := (mkW W.1).any fun k => fS W c i k m != fS W c i ((mkW W.1).getD 0 0) m
section MATTER
variable {Z : zT} {d : Nat} {W : Wld} {σ τ : Sg} {K : kS} {c : Nat}
theorem pb_or2 (a b x y : Int64) (m : Nat) : pb (a ||| b, x ||| y) m = (pb (a, x) m || pb (b, y) m) := by
  unfold pb
  split <;> exact tb_or _ _ _
theorem pb_xo2 (a b x y : Int64) (m : Nat) : pb (a ^^^ b, x ^^^ y) m = (pb (a, x) m ^^ pb (b, y) m) := by
  unfold pb
  split <;> exact tb_xor _ _ _
/-- what matter() writes -/
def MaF (σ τ : Sg) : Prop := τ.sh = σ.sh ∧ τ.r = σ.r ∧ τ.i = σ.i ∧ ∀ a k, ¬ (a = 0 ∧ 64 ≤ k ∧ k ≤ 67) → τ.l a k = σ.l a k
theorem MaF.lt (h : MaF σ τ) : LtF σ τ := ⟨h.1, h.2.1, fun a _ _ _ => by rw [h.2.2.1], fun a k _ _ h3 => h.2.2.2 a k h3⟩
theorem MaF.tr {υ : Sg} (h : MaF σ τ) (g : MaF τ υ) : MaF σ υ := ⟨g.1.trans h.1, g.2.1.trans h.2.1, g.2.2.1.trans h.2.2.1, fun a k q => (g.2.2.2 a k q).trans (h.2.2.2 a k q)⟩
def MaS (W : Wld) (c o j0 : Nat) (τ : Sg) : Prop := (∀ m, 1 ≤ m → m ≤ 128 → pb (τ.l 0 64, τ.l 0 65) m = (vrS W c (opP (plW W.2.1 c) o j0) m && rsS W c o j0 m)) ∧ ∀ m, 1 ≤ m → m ≤ 128 → pb (τ.l 0 66, τ.l 0 67) m = (anS W c (opP (plW W.2.1 c) o j0) m && rsS W c o j0 m)
theorem rf_matter {o j0 : Nat} (H : WkS W σ) (hc : c < W.2.1.length) (hmk : 1 ≤ (mkW W.1).length) (ho : o < ocN (plW W.2.1 c)) (hj : j0 < plW W.2.1 c) (h : ∀ τ, MaF σ τ → MaS W c o j0 τ → K (.inl none) τ) : B_X23_matter_0 Z (d + 2) σ (Int32.ofNat c) (Int32.ofNat o) (Int32.ofNat j0) K := by
  have hk24 := H.2.1.1.2.1
  have hc24 := H.2.1.2.1.2.1
  obtain ⟨-, -, w3⟩ := wyW_ok H.2.1 hc
  have hpl := pl_le H.2.1 hc
  have ibc : ib (Int32.ofNat c) 24 := ib_oN (by omega) (by decide)
  have hml : (mkW W.1).length ≤ 24 := by
    unfold mkW
    have := List.length_filter_le (fun k => !(((W.1[k]?).map (·.2.1)).getD false)) (List.range W.1.length)
    rw [List.length_range] at this
    omega
  have hpp := opP_lt hpl ho hj
  have ef : (mkW W.1)[0]? = some ((mkW W.1).getD 0 0) := by
    rw [List.getD_eq_getElem?_getD, List.getElem?_eq_getElem (by omega)]
    rfl
  have hfl := mk_lt (List.mem_of_getElem? ef)
  refine S_X23_matter_0 H.1 ⟨ibc, ?_⟩
  rw [oN_t (by omega), w3]
  refine rf_placeO (d := d) H.1 hpl ho hj ?_
  unfold MaS rsS at h
  generalize hp : plW W.2.1 c = pl at *
  generalize hP : opP pl o j0 = P at *
  -- the sum of what differs
  have sums : ∀ (u : Int64 × Int64), (∀ m, 1 ≤ m → m ≤ 128 → pb u m = (List.range pl).all fun j => decide (j ≤ j0) || anS W c (opP pl o j) m) → ∀ r j τ, (mkW W.1).length - j = r → j ≤ (mkW W.1).length → MaF σ τ → (∀ m, 1 ≤ m → m ≤ 128 → pb (τ.l 0 64, τ.l 0 65) m = ((mkW W.1).take j).any fun k => fS W c P k m != fS W c P ((mkW W.1).getD 0 0) m) → B_X23_matter_119 Z (d + 2) τ (Int32.ofNat c) (Int32.ofNat P) u.1 u.2 (55 + 1 + 76 * c + 1 + 25 * P + 1 + (mkW W.1).getD 0 0) (Int32.ofNat j) K := by
    intro u hu r
    have p10 : sh0R[55 + 1 + 76 * c + 1 + 25 * P + 1 + (mkW W.1).getD 0 0]? = some (Sh.arr 1 2) := kE_fit2 (c := c) (n := P) (k := (mkW W.1).getD 0 0) (by omega) (by omega) (by omega)
    have ibP : ib (Int32.ofNat P) 3 := ib_oN (by omega) (by decide)
    induction r with
    | zero =>
      intro j τ hr hjl g hd
      have e : j = (mkW W.1).length := by omega
      subst e
      have Hτ := H.lt g.lt
      rw [List.take_length] at hd
      refine S_X23_matter_119 Hτ.1 p10 ⟨fun _ => ⟨ibc, ibP, ibc, ibP, ?_⟩, fun z => absurd (by rw [Hτ.2.2.1.2.1.1]; exact Int32.le_refl _) z⟩
      rw [oN_t (by omega), oN_t (by omega)]
      obtain ⟨ψ, hψ⟩ : ∃ x, x = ((((τ.wl 0 64 ((τ.l 0 64) &&& u.1)).wl 0 65 ((τ.l 0 65) &&& u.2)).wl 0 66 ((((τ.wl 0 64 ((τ.l 0 64) &&& u.1)).wl 0 65 ((τ.l 0 65) &&& u.2)).l (2071 + 1 + c) P) &&& u.1)).wl 0 67 (((((τ.wl 0 64 ((τ.l 0 64) &&& u.1)).wl 0 65 ((τ.l 0 65) &&& u.2)).wl 0 66 ((((τ.wl 0 64 ((τ.l 0 64) &&& u.1)).wl 0 65 ((τ.l 0 65) &&& u.2)).l (2071 + 1 + c) P) &&& u.1)).l (2096 + 1 + c) P) &&& u.2)) := ⟨_, rfl⟩
      rw [← hψ]
      have l64 : ψ.l 0 64 = (τ.l 0 64) &&& u.1 := by
        rw [hψ, wl_l, if_neg (by omega), wl_l, if_neg (by omega), wl_l, if_neg (by omega), wl_l, if_pos ⟨rfl, rfl⟩]
      have l65 : ψ.l 0 65 = (τ.l 0 65) &&& u.2 := by
        rw [hψ, wl_l, if_neg (by omega), wl_l, if_neg (by omega), wl_l, if_pos ⟨rfl, rfl⟩]
      have l66 : ψ.l 0 66 = (τ.l (2071 + 1 + c) P) &&& u.1 := by
        rw [hψ, wl_l, if_neg (by omega), wl_l, if_pos ⟨rfl, rfl⟩, wl_l, if_neg (by omega), wl_l, if_neg (by omega)]
      have l67 : ψ.l 0 67 = (τ.l (2096 + 1 + c) P) &&& u.2 := by
        rw [hψ, wl_l, if_pos ⟨rfl, rfl⟩, wl_l, if_neg (by omega), wl_l, if_neg (by omega), wl_l, if_neg (by omega)]
      refine h ψ (g.tr ⟨by rw [hψ]; rfl, by rw [hψ]; rfl, by rw [hψ]; rfl, fun a k q => ?_⟩) ⟨fun m m1 m2 => ?_, fun m m1 m2 => ?_⟩
      · rw [hψ, wl_l, if_neg (by omega), wl_l, if_neg (by omega), wl_l, if_neg (by omega), wl_l, if_neg (by omega)]
      · rw [l64, l65]
        have := pb_an (τ.l 0 64, τ.l 0 65) u m
        rw [show (τ.l 0 64 &&& u.1, τ.l 0 65 &&& u.2) = anP (τ.l 0 64, τ.l 0 65) u from rfl, this, hd m m1 m2, hu m m1 m2]
        rfl
      · rw [l66, l67]
        have := pb_an (τ.l (2071 + 1 + c) P, τ.l (2096 + 1 + c) P) u m
        rw [show (τ.l (2071 + 1 + c) P &&& u.1, τ.l (2096 + 1 + c) P &&& u.2) = anP (τ.l (2071 + 1 + c) P, τ.l (2096 + 1 + c) P) u from rfl, this, Hτ.any hc (by omega) m1 m2, hu m m1 m2]
    | succ r ih =>
      intro j τ hr hjl g hd
      have hlt : j < (mkW W.1).length := by omega
      have e : (mkW W.1)[j]? = some (mkW W.1)[j] := List.getElem?_eq_getElem hlt
      have hkl := mk_lt (List.getElem_mem hlt)
      have Hτ := H.lt g.lt
      have ibj : ib (Int32.ofNat j) 24 := ib_oN (by omega) (by decide)
      have ibk : ib (τ.i 1932 (Int32.ofNat j).toNatClampNeg) 24 := by
        rw [oN_t (by omega), Hτ.2.2.1.2.1.2 j _ e]
        exact ib_oN (by omega) (by decide)
      refine S_X23_matter_119 Hτ.1 p10 ⟨fun z => ?_, fun _ => ⟨ibc, ibP, ibj, ibk, ibc, ibP, ibj, ibk, ?_⟩⟩
      · exfalso
        rw [Hτ.2.2.1.2.1.1, oN_le (by omega) (by omega)] at z
        omega
      · rw [oN_t (by omega), oN_t (by omega), oN_t (by omega), Hτ.2.2.1.2.1.2 j _ e, oN_t (by omega), oN_1]
        have fA : ∀ (x : Nat) (k : Nat), ¬ (55 + 1 + 76 * c + 1 + 25 * P + 1 + x = 0 ∧ k = 64) := fun x k => by omega
        rw [show (τ.wl 0 64 ((τ.l 0 64) ||| ((τ.l (55 + 1 + 76 * c + 1 + 25 * P + 1 + (mkW W.1)[j]) 0) ^^^ (τ.l (55 + 1 + 76 * c + 1 + 25 * P + 1 + (mkW W.1).getD 0 0) 0)))).l (55 + 1 + 76 * c + 1 + 25 * P + 1 + (mkW W.1)[j]) 1 = τ.l (55 + 1 + 76 * c + 1 + 25 * P + 1 + (mkW W.1)[j]) 1 by rw [wl_l, if_neg (fA _ _)], show (τ.wl 0 64 ((τ.l 0 64) ||| ((τ.l (55 + 1 + 76 * c + 1 + 25 * P + 1 + (mkW W.1)[j]) 0) ^^^ (τ.l (55 + 1 + 76 * c + 1 + 25 * P + 1 + (mkW W.1).getD 0 0) 0)))).l (55 + 1 + 76 * c + 1 + 25 * P + 1 + (mkW W.1).getD 0 0) 1 = τ.l (55 + 1 + 76 * c + 1 + 25 * P + 1 + (mkW W.1).getD 0 0) 1 by rw [wl_l, if_neg (fA _ _)]]
        refine ih (j + 1) _ (by omega) (by omega) (g.tr ⟨rfl, rfl, rfl, fun a k q => ?_⟩) (fun m m1 m2 => ?_)
        · rw [wl_l, if_neg (by omega), wl_l, if_neg (by omega)]
        · have x1 : (((τ.wl 0 64 ((τ.l 0 64) ||| ((τ.l (55 + 1 + 76 * c + 1 + 25 * P + 1 + (mkW W.1)[j]) 0) ^^^ (τ.l (55 + 1 + 76 * c + 1 + 25 * P + 1 + (mkW W.1).getD 0 0) 0)))).wl 0 65 ((τ.l 0 65) ||| ((τ.l (55 + 1 + 76 * c + 1 + 25 * P + 1 + (mkW W.1)[j]) 1) ^^^ (τ.l (55 + 1 + 76 * c + 1 + 25 * P + 1 + (mkW W.1).getD 0 0) 1))))).l 0 64 = (τ.l 0 64) ||| ((fpr τ c P (mkW W.1)[j]).1 ^^^ (fpr τ c P ((mkW W.1).getD 0 0)).1) := by
            rw [wl_l, if_neg (by omega), wl_l, if_pos ⟨rfl, rfl⟩]
            rfl
          have x2 : (((τ.wl 0 64 ((τ.l 0 64) ||| ((τ.l (55 + 1 + 76 * c + 1 + 25 * P + 1 + (mkW W.1)[j]) 0) ^^^ (τ.l (55 + 1 + 76 * c + 1 + 25 * P + 1 + (mkW W.1).getD 0 0) 0)))).wl 0 65 ((τ.l 0 65) ||| ((τ.l (55 + 1 + 76 * c + 1 + 25 * P + 1 + (mkW W.1)[j]) 1) ^^^ (τ.l (55 + 1 + 76 * c + 1 + 25 * P + 1 + (mkW W.1).getD 0 0) 1))))).l 0 65 = (τ.l 0 65) ||| ((fpr τ c P (mkW W.1)[j]).2 ^^^ (fpr τ c P ((mkW W.1).getD 0 0)).2) := by
            rw [wl_l, if_pos ⟨rfl, rfl⟩]
            rfl
          rw [x1, x2, pb_or2, pb_xo2, hd m m1 m2]
          have y1 := Hτ.fit hc (show P < 3 by omega) hkl m1 m2
          have y2 := Hτ.fit hc (show P < 3 by omega) hfl m1 m2
          rw [show ((fpr τ c P (mkW W.1)[j]).1, (fpr τ c P (mkW W.1)[j]).2) = fpr τ c P (mkW W.1)[j] from rfl, show ((fpr τ c P ((mkW W.1).getD 0 0)).1, (fpr τ c P ((mkW W.1).getD 0 0)).2) = fpr τ c P ((mkW W.1).getD 0 0) from rfl, y1, y2, List.take_add_one, e]
          show _ = List.any ((mkW W.1).take j ++ [(mkW W.1)[j]]) _
          rw [List.any_append]
          congr 1
          simp
  -- the places behind
  have rest : ∀ r j (u : Int64 × Int64), pl - j = r → j0 < j → j ≤ pl → (∀ m, 1 ≤ m → m ≤ 128 → pb u m = (List.range j).all fun j => decide (j ≤ j0) || anS W c (opP pl o j) m) → B_X23_matter_35 Z (d + 2) σ (Int32.ofNat c) (Int32.ofNat o) (Int32.ofNat pl) (Int32.ofNat P) u.1 u.2 (Int32.ofNat j) K := by
    intro r
    induction r with
    | zero =>
      intro j u hr hj1 hj2 hu
      have e : j = pl := by omega
      subst e
      refine S_X23_matter_35 H.1 ⟨fun _ => ⟨ibc, ib_oN (by omega) (by decide), ?_, ?_⟩, fun z => absurd (Int32.le_refl _) z⟩
      · rw [H.2.2.1.2.1.2 0 _ ef]
        exact ib_oN (by omega) (by decide)
      · rw [oN_t (by omega), oN_t (by omega), H.2.2.1.2.1.2 0 _ ef, oN_t (by omega)]
        refine sums u hu (mkW W.1).length 0 _ (by omega) (Nat.zero_le _) ⟨rfl, rfl, rfl, fun a k q => ?_⟩ (fun m m1 m2 => ?_)
        · rw [wl_l, if_neg (by omega), wl_l, if_neg (by omega)]
        · rw [wl_l, if_neg (by omega), wl_l, if_pos ⟨rfl, rfl⟩, wl_l, if_pos ⟨rfl, rfl⟩]
          have := pb_0 (p := ((0 : Int64), (0 : Int64)))
          rw [this.mp ⟨rfl, rfl⟩ m m1 m2]
          rfl
    | succ r ih =>
      intro j u hr hj1 hj2 hu
      have hjl : j < pl := by omega
      have hoj := opP_lt hpl ho hjl
      refine S_X23_matter_35 H.1 ⟨fun z => ?_, fun _ => ⟨ibc, ?_⟩⟩
      · exfalso
        rw [oN_le (by omega) (by omega)] at z
        omega
      · refine rf_placeO (d := d) H.1 hpl ho hjl ⟨ib_oN (by omega) (by decide), ibc, ?_⟩
        refine rf_placeO (d := d) H.1 hpl ho hjl ⟨ib_oN (by omega) (by decide), ?_⟩
        rw [oN_t (by omega), oN_t (by omega), oN_1]
        refine ih (j + 1) (anP u (σ.l (2071 + 1 + c) (opP pl o j), σ.l (2096 + 1 + c) (opP pl o j))) (by omega) (by omega) (by omega) (fun m m1 m2 => ?_)
        rw [pb_an, hu m m1 m2, H.any hc (by omega) m1 m2, List.range_succ, List.all_append]
        congr 1
        simp
        omega
  show B_X23_matter_35 Z (d + 2) σ (Int32.ofNat c) (Int32.ofNat o) (Int32.ofNat pl) (Int32.ofNat P) (-1) (-1) (Int32.ofNat j0 + 1) K
  rw [oN_1]
  refine rest _ (j0 + 1) (-1, -1) rfl (by omega) (by omega) (fun m m1 m2 => ?_)
  rw [pb_m1]
  symm
  rw [List.all_eq_true]
  intro j hj
  have := List.mem_range.mp hj
  rw [decide_eq_true (by omega), Bool.true_or]
end MATTER

/-! THE REFERENCE: a program runs -/
def hwR : Rs → Nat
  | .inl _ => 0
  | .inr (.inl _) => 1
  | .inr (.inr h) => h
def laR : Rs → Int64
  | .inl v => v
  | .inr (.inl v) => v
  | .inr (.inr _) => vlX (-1) 0
/-- a program as it should be -/
def PgW (W : Wld) (pg : Ast) : Prop := exW (evW W (-1)) pg false 0 ∧ ndC pg ≤ 300 ∧ eH pg ≤ 39
/-- what a run counted -/
def EsR (S : Es) (σ : Sg) : Prop := σ.i 0 80 = Int32.ofNat S.1 ∧ σ.i 0 84 = Int32.ofNat S.2.1 ∧ (σ.i 0 85 = Int32.ofNat S.2.2.1.length ∧ S.2.2.1.length ≤ 512 ∧ ∀ i x, S.2.2.1[i]? = some x → σ.i 2134 i = x) ∧ (σ.i 0 86 = Int32.ofNat S.2.2.2.1 ∧ S.2.2.2.1 ≤ 100001 ∧ S.2.2.2.2.length = min S.2.2.2.1 512 ∧ ∀ (i x : Nat), S.2.2.2.2[i]? = some x → σ.i 2135 i = Int32.ofNat x)
/-- the last run, in the heap -/
def RunS (rn : Option (Rs × Es)) (σ : Sg) : Prop := match rn with
  | none => σ.i 0 96 = 0 ∧ EsR (0, 0, [], 0, []) σ
  | some (r, S) => (σ.i 0 96 = 1 ∧ σ.i 0 79 = Int32.ofNat (hwR r) ∧ σ.l 0 97 = laR r) ∧ EsR S σ
theorem EsR.keep {S : Es} {σ τ : Sg} (h : EsR S σ) (h0 : ∀ k, (k = 80 ∨ k = 84 ∨ k = 85 ∨ k = 86) → τ.i 0 k = σ.i 0 k) (h4 : τ.i 2134 = σ.i 2134) (h5 : τ.i 2135 = σ.i 2135) : EsR S τ := by
  unfold EsR
  rw [h0 80 (by decide), h0 84 (by decide), h0 85 (by decide), h0 86 (by decide), h4, h5]
  exact h
theorem RunS.keep {rn : Option (Rs × Es)} {σ τ : Sg} (h : RunS rn σ) (h0 : ∀ k, (k = 79 ∨ k = 80 ∨ (84 ≤ k ∧ k ≤ 86) ∨ k = 96) → τ.i 0 k = σ.i 0 k) (h4 : τ.i 2134 = σ.i 2134) (h5 : τ.i 2135 = σ.i 2135) (hl : τ.l 0 97 = σ.l 0 97) : RunS rn τ := by
  rcases rn with _ | ⟨r, S⟩
  · exact ⟨(h0 96 (by decide)).trans h.1, h.2.keep (fun k q => h0 k (by omega)) h4 h5⟩
  · exact ⟨⟨(h0 96 (by decide)).trans h.1.1, (h0 79 (by decide)).trans h.1.2.1, hl.trans h.1.2.2⟩, h.2.keep (fun k q => h0 k (by omega)) h4 h5⟩
section RUNALL
variable {Z : zT} {d : Nat} {W : Wld} {pg : Ast} {t : Nat → Int32} {n m : Nat} {lst : List Nat} {cap m7 : Nat} {lst7 : List Nat} {cap7 wy ch fuel : Nat} {σ τ : Sg} {K : kS}
/-- little else written -/
theorem RefR.gen {W' : Wld} (R : RefR W pg t n m lst cap m7 lst7 cap7 σ) (hs : τ.sh = σ.sh) (hr : ∀ a k, ((1 ≤ a ∧ a < 55) ∨ 3365 ≤ a ∨ (a = 0 ∧ k = 10)) → τ.r a k = σ.r a k) (hi : ∀ a k, ((1 ≤ a ∧ a < 55) ∨ 3365 ≤ a ∨ (a = 0 ∧ k = 15)) → τ.i a k = σ.i a k) (hl : ∀ a k, 3365 ≤ a → τ.l a k = σ.l a k) (N : NwS W' lst m wy τ) (B : RbR W'.1 W'.2.1 W'.2.2.2 τ) : RefR W' pg t n m lst cap m7 lst7 cap7 τ := by
  have F := R.fx
  have ls : ∀ {A : Nat} {l : List Nat} {c : Nat}, (1 ≤ A ∧ A < 55) → LsS σ A l c → LsS τ A l c := fun {A l c} hA L => L.mono (fun a s q => by rw [hs]; exact q) (hi A 2 (Or.inl hA)) (hr A 1 (Or.inl hA)) (fun b hb => funext fun k => hr b k (Or.inr (Or.inl (oa_ge F (L.arr hb)))))
  obtain ⟨⟨x1, x2, x3, x4⟩, x5⟩ := R.tx
  refine ⟨N.1, N.2.1, N.2.2.1, N.2.2.2.1, B, ⟨⟨x1, (hi 0 15 (Or.inr (Or.inr ⟨rfl, rfl⟩))).trans x2, fun k hk => (hi 37 k (by omega)).trans (x3 k hk), x4⟩, x5⟩, ⟨ls (by decide) R.n5.1, (hi 5 1 (by decide)).trans R.n5.2.1, R.n5.2.2⟩, ⟨ls (by decide) R.n7.1, (hi 7 1 (by decide)).trans R.n7.2.1, R.n7.2.2⟩, ⟨R.dj.1, ?_⟩, ?_⟩
  · rw [hr 6 1 (by decide), hr 8 1 (by decide)]
    exact R.dj.2
  · rw [hr 0 10 (by decide)]
    exact TrN.mono (σ := σ) (τ := τ) (fun y hy hys => by
      have := nd_ge F hys
      exact ⟨hy, by rw [hs]; exact hys, funext fun k => hi y k (by omega), funext fun k => hl y k (by omega), funext fun k => hr y k (by omega)⟩) _ _ R.tr
/-- behind a run -/
theorem RefR.ev {nv : Nat} (R : RefR W pg t n m lst cap m7 lst7 cap7 σ) (g : EvF 0 0 nv σ τ) (w : WrS W lst m wy ch fuel τ) : RefR W pg t n m lst cap m7 lst7 cap7 τ := R.gen g.1 (fun a k q => g.2.1 a k (by omega) (by omega)) (fun a k q => g.2.2.1 a k (fun z => by unfold evE at z; omega)) (fun a k q => g.2.2.2 a k (fun z => by unfold evL at z; omega)) w.1 w.2.1
theorem ru_c {q pc : Nat} {y : String} (hp : (y = "DispatchHouseModel$Failed" ∧ pc = 69) ∨ (y = "DispatchHouseModel$Ended" ∧ pc = 86)) (w : (pc = 69 → B_X23_runAll_69 Z (d + 1) σ q K) ∧ (pc = 86 → B_X23_runAll_86 Z (d + 1) σ q K)) : bS ΦR (hb_Gz Z.1 (some Z.2)) hb_GT d (mX23_runAll, [(49, 66, 69, 790), (49, 66, 86, 888)]) 55 [(0, .ref 0)] K (.inr (y, q)) σ := by
  rcases hp with ⟨rfl, rfl⟩ | ⟨rfl, rfl⟩
  · exact bS_c (hp := 69) (by decide +kernel) (w.1 rfl)
  · exact bS_c (hp := 86) (by decide +kernel) (w.2 rfl)
/-- what a run leaves as it was -/
def RuF (σ τ : Sg) : Prop := τ.sh = σ.sh ∧ (∀ k, k = 81 ∨ k = 82 ∨ k = 83 ∨ (110 ≤ k ∧ k ≤ 112) → τ.i 0 k = σ.i 0 k) ∧ τ.i 2191 = σ.i 2191
theorem rf_runAll (hd : 1800 ≤ d) (R : RefR W pg t n m lst cap m7 lst7 cap7 σ) (hW : RnW W) (hpg : PgW W pg) (hw : σ.i 0 83 = Int32.ofNat wy ∧ wy < 3) (hch : σ.i 0 82 = Int32.ofNat ch ∧ ch ≤ 3) (hfu : σ.i 0 81 = Int32.ofNat fuel ∧ fuel ≤ 100000) (M : MmR W wy σ) (O : OrR W σ)
    (h : ∀ τ, RefR W pg t n m lst cap m7 lst7 cap7 τ → MmR W wy τ → OrR W τ → RuF σ τ → RunS (some (rnP W wy ch fuel pg)) τ → K (.inl (some (.int (Int32.ofNat (hwR (rnP W wy ch fuel pg).1))))) τ) : B_X23_runAll_0 Z d σ K := by
  obtain ⟨d, rfl⟩ : ∃ e, d = e + 2 := ⟨d - 2, by omega⟩
  have F := R.fx
  refine S_X23_runAll_0 F (rf_value F ?_)
  obtain ⟨σ2, hσ2⟩ : ∃ x, x = (((((((((σ.wi 0 96 (1 : Int32)).wi 0 80 (0 : Int32)).wi 0 84 (0 : Int32)).wi 0 85 (0 : Int32)).wi 0 86 (0 : Int32)).wi 0 87 (0 : Int32)).wi 0 70 (0 : Int32)).wl 0 68 (0 : Int64)).wl 0 97 (vlX (-1) 0) : Sg) := ⟨_, rfl⟩
  have F2 : FX ΦR σ2.sh σ2.r := by rw [hσ2]; exact F
  have w2 : SmW σ σ2 := by
    rw [hσ2]
    exact ((((((((SmW.wi0 (by decide)).tr (SmW.wi0 (by decide))).tr (SmW.wi0 (by decide))).tr (SmW.wi0 (by decide))).tr (SmW.wi0 (by decide))).tr (SmW.wi0 (by decide))).tr (SmW.wi0 (by decide))).tr (SmW.wl (Or.inl rfl))).tr (SmW.wl (Or.inl rfl))
  have W0 : WrS W lst m wy ch fuel σ := ⟨R.nw hw, R.rb, M, O, hfu, hch⟩
  have W2 := W0.sm w2 F2
  have i2 : ∀ a k, ¬ (a = 0 ∧ (k = 96 ∨ k = 80 ∨ k = 84 ∨ k = 85 ∨ k = 86 ∨ k = 87 ∨ k = 70)) → σ2.i a k = σ.i a k := fun a k q => by
    rw [hσ2]
    exact (wi_ne (by omega)).trans ((wi_ne (by omega)).trans ((wi_ne (by omega)).trans ((wi_ne (by omega)).trans ((wi_ne (by omega)).trans ((wi_ne (by omega)).trans (wi_ne (by omega)))))))
  have l2 : ∀ a k, ¬ (a = 0 ∧ (k = 68 ∨ k = 97)) → σ2.l a k = σ.l a k := fun a k q => by
    rw [hσ2]
    exact (wl_ne (by omega)).trans (wl_ne (by omega))
  have r2 : σ2.r = σ.r := by rw [hσ2]; rfl
  have ei : σ2.i = (((((((σ.wi 0 96 (1 : Int32)).wi 0 80 (0 : Int32)).wi 0 84 (0 : Int32)).wi 0 85 (0 : Int32)).wi 0 86 (0 : Int32)).wi 0 87 (0 : Int32)).wi 0 70 (0 : Int32)).i := by rw [hσ2]; rfl
  have s2 : σ2.sh = σ.sh := by rw [hσ2]; rfl
  have R2 : RefR W pg t n m lst cap m7 lst7 cap7 σ2 := R.gen s2 (fun a k _ => by rw [r2]) (fun a k q => i2 a k (by omega)) (fun a k q => l2 a k (by omega)) W2.1 W2.2.1
  have A2 : EvA W lst m wy ch fuel 0 0 (fun _ => True) [] [] (0, 0, [], 0, []) σ2 := by
    refine ⟨W2, ⟨⟨?_, by decide⟩, ⟨?_, by decide⟩, ⟨?_, fun x hx => (by cases hx), List.nodup_nil⟩, ?_, ?_, ⟨?_, by decide, fun i x hx => (by cases hx)⟩, ?_, rfl, fun i x hx => (by cases hx)⟩, fun i x hx => (by cases hx), trivial, Nat.zero_le _⟩
    · rw [ei]
      exact (wi_ne (by decide)).trans wi_eq
    · rw [ei]
      exact wi_eq
    · rw [hσ2]
      exact (wl_ne (by decide)).trans wl_eq
    · rw [ei]
      exact (wi_ne (by decide)).trans ((wi_ne (by decide)).trans ((wi_ne (by decide)).trans ((wi_ne (by decide)).trans ((wi_ne (by decide)).trans wi_eq))))
    · rw [ei]
      exact (wi_ne (by decide)).trans ((wi_ne (by decide)).trans ((wi_ne (by decide)).trans ((wi_ne (by decide)).trans wi_eq)))
    · rw [ei]
      exact (wi_ne (by decide)).trans ((wi_ne (by decide)).trans ((wi_ne (by decide)).trans wi_eq))
    · rw [ei]
      exact (wi_ne (by decide)).trans ((wi_ne (by decide)).trans wi_eq)
  have H := eh_all (Z := Z) (W := W) (lst := lst) (b := m) (wy := wy) (ch := ch) (fuel := fuel) (dp := 0) (cn := 0) (D := 1747) (pl := 0) (cl := clR W wy ch (enK W wy ch fuel 24)) (fu := fun _ _ S => faR 1 S) (Fr := fun _ => True) (B := Rg lst7 0 m7) (fun _ _ _ _ _ => trivial) (fun _ _ _ => trivial) (by decide) hW.1.2.1 hW.2.2.2 (own := -1) (rf_called (D := 1740) hW (fun _ _ _ _ _ => trivial) (rf_ens hW 24 0 1 rfl) (Nat.le_refl _) (by decide)) (fun z => absurd z (by decide)) pg false 0 hpg.1 hpg.2.1
  have hH := hpg.2.2
  have T2 : TrN σ2 (Rg lst7 0 m7) pg (σ2.r 0 10) := R2.tr
  have fin : EvK W lst m wy ch fuel 0 0 0 [] σ2 (rnP W wy ch fuel pg) (yL (bS ΦR (hb_Gz Z.1 (some Z.2)) hb_GT (d + 1) (mX23_runAll, [(49, 66, 69, 790), (49, 66, 86, 888)]) 55 [(0, .ref 0)] K) fun v6 τ4 => K (.inl (some (.int (0 : Int32)))) ((τ4.wl 0 97 v6).wi 0 79 (0 : Int32))) := by
    intro τ q
    obtain ⟨g, wτ, rτ, sτ, rs⟩ := q
    have Rτ := R2.ev g wτ
    have e96 : τ.i 0 96 = 1 := by
      rw [g.2.2.1 0 96 (fun z => by unfold evE at z; omega), ei]
      exact (wi_ne (by decide)).trans ((wi_ne (by decide)).trans ((wi_ne (by decide)).trans ((wi_ne (by decide)).trans ((wi_ne (by decide)).trans ((wi_ne (by decide)).trans wi_eq)))))
    have ru : RuF σ τ := ⟨g.1.trans s2, fun k hk => (g.2.2.1 0 k (fun z => by unfold evE at z; omega)).trans (i2 0 k (by omega)), funext fun k => (g.2.2.1 2191 k (fun z => by unfold evE at z; omega)).trans (i2 2191 k (by omega))⟩
    have bg : (rnP W wy ch fuel pg).2.2.2.2.1 ≤ 100001 := by
      have h1 := hfu.2
      generalize rnP W wy ch fuel pg = r at rs sτ
      rcases r with ⟨v | v | v, S⟩
      · have hb2 : S.2.2.2.1 ≤ S.1 := rs.2
        have sτ : S.1 ≤ fuel := sτ
        show S.2.2.2.1 ≤ 100001
        omega
      · have hb2 : S.2.2.2.1 ≤ S.1 := rs.2
        have sτ : S.1 ≤ fuel := sτ
        show S.2.2.2.1 ≤ 100001
        omega
      · have hb2 : S.2.2.2.1 ≤ S.1 + 1 := rs.2
        have sτ : S.1 ≤ fuel := sτ
        show S.2.2.2.1 ≤ 100001
        omega
    have es : EsR (rnP W wy ch fuel pg).2 τ := ⟨rτ.2.2.2.1, rτ.2.2.2.2.1, rτ.2.2.2.2.2.1, rτ.2.2.2.2.2.2.1, bg, rτ.2.2.2.2.2.2.2⟩
    -- the last writes
    have last : ∀ (v : Int64) (hw : Int32) (υ : Sg), υ.sh = τ.sh → υ.r = τ.r → (∀ a k, ¬ (a = 0 ∧ k = 79) → υ.i a k = τ.i a k) → (∀ a k, ¬ (a = 0 ∧ k = 97) → υ.l a k = τ.l a k) → RefR W pg t n m lst cap m7 lst7 cap7 υ ∧ MmR W wy υ ∧ OrR W υ ∧ RuF σ υ ∧ EsR (rnP W wy ch fuel pg).2 υ ∧ υ.i 0 96 = 1 := fun v hw υ u1 u2 u3 u4 => by
      have hi : ∀ a, a ≠ 0 → υ.i a = τ.i a := fun a ha => funext fun k => u3 a k (fun z => ha z.1)
      have wu : SmW τ υ := ⟨u1, fun a _ => by rw [u2], fun a ha _ => hi a ha, fun k hk => u3 0 k (by omega), fun a ha _ => funext fun k => u4 a k (fun z => ha z.1)⟩
      have Fu : FX ΦR υ.sh υ.r := by rw [u1, u2]; exact wτ.1.1
      have Wu := wτ.sm wu Fu
      exact ⟨Rτ.gen u1 (fun a k _ => by rw [u2]) (fun a k q => u3 a k (by omega)) (fun a k q => u4 a k (by omega)) Wu.1 Wu.2.1, Wu.2.2.1, Wu.2.2.2.1, ⟨u1.trans ru.1, fun k hk => (u3 0 k (by omega)).trans (ru.2.1 k hk), (hi 2191 (by decide)).trans ru.2.2⟩, es.keep (fun k q => u3 0 k (by omega)) (hi _ (by decide)) (hi _ (by decide)), (u3 0 96 (by decide)).trans e96⟩
    generalize hr : rnP W wy ch fuel pg = r at h rs es last
    rcases r with ⟨v | v | v, S⟩
    · obtain ⟨c1, c2, c3, c4, c5, c6⟩ := last v 0 ((τ.wl 0 97 v).wi 0 79 (0 : Int32)) rfl rfl (fun a k q => wi_ne q) (fun a k q => wl_ne q)
      exact h _ c1 c2 c3 c4 ⟨⟨c6, wi_eq, wl_eq⟩, c5⟩
    · refine ru_c (Or.inl ⟨rfl, rfl⟩) ⟨fun _ => S_X23_runAll_69 wτ.1.1 ?_, fun z => absurd z (by decide)⟩
      have e78 : τ.l 0 78 = v := rs.1.2
      rw [e78]
      obtain ⟨c1, c2, c3, c4, c5, c6⟩ := last v 1 ((τ.wl 0 97 v).wi 0 79 (1 : Int32)) rfl rfl (fun a k q => wi_ne q) (fun a k q => wl_ne q)
      exact h _ c1 c2 c3 c4 ⟨⟨c6, wi_eq, wl_eq⟩, c5⟩
    · refine ru_c (Or.inr ⟨rfl, rfl⟩) ⟨fun z => absurd z (by decide), fun _ => S_X23_runAll_86 wτ.1.1 (rf_value wτ.1.1 ?_)⟩
      have e79 : τ.i 0 79 = Int32.ofNat v := rs.1.1
      obtain ⟨c1, c2, c3, c4, c5, c6⟩ := last (vlX (-1) 0) 1 (τ.wl 0 97 (vlX (-1) 0)) rfl rfl (fun a k q => rfl) (fun a k q => wl_ne q)
      have goal := h _ c1 c2 c3 c4 ⟨⟨c6, e79, wl_eq⟩, c5⟩
      show K (.inl (some (.int (τ.i 0 79)))) (τ.wl 0 97 (vlX (-1) 0))
      rw [e79]
      exact goal
  have goal := H.1 rfl (d + 1) 0 [] [] _ σ2 _ _ (by omega) rfl (by decide) A2 T2 (by decide) fin
  rw [hσ2] at goal
  exact goal
end RUNALL

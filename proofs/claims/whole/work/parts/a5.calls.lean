/-! THE REFERENCE: feed, set, ran, word -/
def fdB (x : Int32) (j : Nat) : Int32 := byB (x >>> (((24 : Int32) - (8 : Int32) * Int32.ofNat j) &&& 31))
/-- bytes written on the tape, from lo to hi -/
def TpR (lo hi : Nat) (f : Nat → Int32) (σ τ : Sg) : Prop := τ.sh = σ.sh ∧ τ.l = σ.l ∧ τ.r = σ.r ∧ (∀ a k, ¬ (a = 37 ∧ lo ≤ k ∧ k < hi) → τ.i a k = σ.i a k) ∧ ∀ k, lo ≤ k → k < hi → τ.i 37 k = f k
theorem TpR.tr {lo mid hi : Nat} {f : Nat → Int32} {σ τ υ : Sg} (h : TpR lo mid f σ τ) (g : TpR mid hi f τ υ) (h1 : lo ≤ mid) (h2 : mid ≤ hi) : TpR lo hi f σ υ := ⟨g.1.trans h.1, g.2.1.trans h.2.1, g.2.2.1.trans h.2.2.1, fun a k q => (g.2.2.2.1 a k (by omega)).trans (h.2.2.2.1 a k (by omega)), fun k k1 k2 => by
  by_cases z : k < mid
  · exact (g.2.2.2.1 37 k (by omega)).trans (h.2.2.2.2 k k1 z)
  · exact g.2.2.2.2 k (by omega) k2⟩
section FEED
variable {Z : zT} {d : Nat} {W : Wld} {pg : Ast} {t : Nat → Int32} {n wy ch fuel rs : Nat} {rn : Option (Rs × Es)} {res : List Nat} {q : Nat} {σ τ : Sg} {K : kS}
theorem rf_wd {v : Int32} {w : Nat} (hw : w + 4 ≤ 8192) {f : Nat → Int32} (hf : ∀ j, j < 4 → f (w + j) = fdB v j) : ∀ r j σ, j + r = 4 → FX ΦR σ.sh σ.r → (∀ τ, TpR (w + j) (w + 4) f σ τ → K (.inl none) τ) → B_X23_word__2 Z (d + 1) σ v (Int32.ofNat w) (Int32.ofNat j) K
  | 0, j, σ, hj, F, hK => by
    refine S_X23_word__2 F ⟨fun _ => hK σ ⟨rfl, rfl, rfl, fun _ _ _ => rfl, fun k k1 k2 => by omega⟩, fun z => absurd ?_ z⟩
    rw [show (4 : Int32) = Int32.ofNat 4 from rfl, oN_le (by decide) (by omega)]
    omega
  | r + 1, j, σ, hj, F, hK => by
    refine S_X23_word__2 F ⟨fun z => absurd z ?_, fun _ => ?_⟩
    · rw [show (4 : Int32) = Int32.ofNat 4 from rfl, oN_le (by decide) (by omega)]
      omega
    · rw [oN_add, oN_t (by omega), oN_1]
      refine ⟨ib_oN (by omega) (by decide), rf_wd hw hf r (j + 1) _ (by omega) F (fun τ h => hK τ ?_)⟩
      refine ⟨h.1, h.2.1, h.2.2.1, fun a k z => (h.2.2.2.1 a k (by omega)).trans (wi_ne (by omega)), fun k k1 k2 => ?_⟩
      by_cases z : k = w + j
      · rw [h.2.2.2.1 37 k (by omega), wi_i, if_pos ⟨rfl, z⟩, z, hf j (by omega)]
        rfl
      · exact h.2.2.2.2 k (by omega) k2
theorem rf_fword {v : Int32} {w : Nat} (hw : w + 4 ≤ 8192) {f : Nat → Int32} (hf : ∀ j, j < 4 → f (w + j) = fdB v j) (F : FX ΦR σ.sh σ.r) (hK : ∀ τ, TpR w (w + 4) f σ τ → K (.inl none) τ) : B_X23_word__0 Z (d + 1) σ v (Int32.ofNat w) K := S_X23_word__0 F (rf_wd hw hf 4 0 σ rfl F hK)
def feA (n : Nat) : An := if n + 20 ≤ 8192 then .inr (Int32.ofNat (n + 20)) else .inl 1
def feT (t : Nat → Int32) (n : Nat) (x1 x2 x3 x4 x5 : Int32) : Nat → Int32 := fun k => if n + 20 ≤ 8192 ∧ n ≤ k ∧ k < n + 20 then fdB ([x1, x2, x3, x4, x5].getD ((k - n) / 4) 0) ((k - n) % 4) else t k
def feN (n : Nat) : Nat := if n + 20 ≤ 8192 then n + 20 else n
theorem by8_8 (y : Int8) : by8 y.toInt32 := by
  have h1 := Int8.le_toInt y
  have h2 := Int8.toInt_lt y
  unfold by8
  rw [Int8.toInt_toInt32]
  omega
theorem byB_e (x : Int32) : byB x = (Int32.toInt8 x).toInt32 := by8_nar (by8_8 _)
theorem byB_b (x : Int32) : by8 (byB x) ∧ (byB x).toInt ≤ 127 := by
  rw [byB_e]
  exact ⟨by8_8 _, (by8_8 _).2⟩
theorem rc_feed {x1 x2 x3 x4 x5 : Int32} (h : RfA W pg t n wy ch fuel rs rn res q σ) (hK : RAns K (RfA W pg (feT t n x1 x2 x3 x4 x5) (feN n) wy ch fuel rs rn res (q + 1)) (feA n)) : B_X23_feed_0 Z (d + 2) σ x1 x2 x3 x4 x5 K := by
  have h0 := h.w110 (v := 0)
  obtain ⟨m, lst, cap, m7, lst7, cap7, R, h1, h2, h3, h4, h5, h6, h7, h8, h9, h10⟩ := h0
  obtain ⟨⟨x01, x02, x03, x04⟩, x05⟩ := R.tx
  have e15 : σ.i 0 15 = Int32.ofNat n := (wi_ne (by decide)).symm.trans x02
  unfold feA feN at hK
  have F := h.fx
  refine S_X23_feed_0 F ?_
  rw [e15, show (20 : Int32) = Int32.ofNat 20 from rfl, oN_add, show (8192 : Int32) = Int32.ofNat 8192 from rfl, oN_le (by omega) (by decide)]
  refine ⟨fun z => ?_, fun z => ?_⟩
  · rw [if_pos z, if_pos z] at hK
    have hf : ∀ i, i < 5 → ∀ j, j < 4 → feT t n x1 x2 x3 x4 x5 (n + 4 * i + j) = fdB ([x1, x2, x3, x4, x5].getD i 0) j := fun i hi j hj => by
      unfold feT
      rw [if_pos (by omega), show (n + 4 * i + j - n) / 4 = i by omega, show (n + 4 * i + j - n) % 4 = j by omega]
    have fx : ∀ {lo hi : Nat} {f : Nat → Int32} {α β : Sg}, TpR lo hi f α β → FX ΦR α.sh α.r → FX ΦR β.sh β.r := fun {lo hi f α β} g Fα => by rw [g.1, g.2.2.1]; exact Fα
    refine rf_fword (w := n) (f := feT t n x1 x2 x3 x4 x5) (by omega) (hf 0 (by decide)) R.fx (fun τ1 g1 => ?_)
    show B_X23_word__0 Z (d + 1) τ1 x2 ((τ1.i 0 15) + (4 : Int32)) (yN K _)
    rw [g1.2.2.2.1 0 15 (by omega), x02, show (4 : Int32) = Int32.ofNat 4 from rfl, oN_add]
    refine rf_fword (w := n + 4) (f := feT t n x1 x2 x3 x4 x5) (by omega) (hf 1 (by decide)) (fx g1 R.fx) (fun τ2 g2 => ?_)
    show B_X23_word__0 Z (d + 1) τ2 x3 ((τ2.i 0 15) + (8 : Int32)) (yN K _)
    rw [g2.2.2.2.1 0 15 (by omega), g1.2.2.2.1 0 15 (by omega), x02, show (8 : Int32) = Int32.ofNat 8 from rfl, oN_add]
    refine rf_fword (w := n + 8) (f := feT t n x1 x2 x3 x4 x5) (by omega) (hf 2 (by decide)) (fx g2 (fx g1 R.fx)) (fun τ3 g3 => ?_)
    show B_X23_word__0 Z (d + 1) τ3 x4 ((τ3.i 0 15) + (12 : Int32)) (yN K _)
    rw [g3.2.2.2.1 0 15 (by omega), g2.2.2.2.1 0 15 (by omega), g1.2.2.2.1 0 15 (by omega), x02, show (12 : Int32) = Int32.ofNat 12 from rfl, oN_add]
    refine rf_fword (w := n + 12) (f := feT t n x1 x2 x3 x4 x5) (by omega) (hf 3 (by decide)) (fx g3 (fx g2 (fx g1 R.fx))) (fun τ4 g4 => ?_)
    show B_X23_word__0 Z (d + 1) τ4 x5 ((τ4.i 0 15) + (16 : Int32)) (yN K _)
    rw [g4.2.2.2.1 0 15 (by omega), g3.2.2.2.1 0 15 (by omega), g2.2.2.2.1 0 15 (by omega), g1.2.2.2.1 0 15 (by omega), x02, show (16 : Int32) = Int32.ofNat 16 from rfl, oN_add]
    refine rf_fword (w := n + 16) (f := feT t n x1 x2 x3 x4 x5) (by omega) (hf 4 (by decide)) (fx g4 (fx g3 (fx g2 (fx g1 R.fx)))) (fun τ5 g5 => ?_)
    have g := (((g1.tr g2 (by omega) (by omega)).tr g3 (by omega) (by omega)).tr g4 (by omega) (by omega)).tr g5 (by omega) (by omega)
    show K (.inl (some (.int ((τ5.i 0 15) + (20 : Int32))))) (τ5.wi 0 15 ((τ5.i 0 15) + (20 : Int32)))
    have F5 := fx g R.fx
    rw [g.2.2.2.1 0 15 (by omega), x02, show (20 : Int32) = Int32.ofNat 20 from rfl, oN_add]
    have gi : ∀ a k, ¬ (a = 37 ∧ n ≤ k ∧ k < n + 20) → ¬ (a = 0 ∧ k = 15) → (τ5.wi 0 15 (Int32.ofNat (n + 20))).i a k = (σ.wi 0 110 (0 : Int32)).i a k := fun a k z1 z2 => (wi_ne z2).trans (g.2.2.2.1 a k (by omega))
    have e : ∀ a, a ≠ 0 → a ≠ 37 → (τ5.wi 0 15 (Int32.ofNat (n + 20))).i a = (σ.wi 0 110 (0 : Int32)).i a := fun a z1 z2 => funext fun k => gi a k (by omega) (by omega)
    have z0 : ∀ k, k ≠ 15 → (τ5.wi 0 15 (Int32.ofNat (n + 20))).i 0 k = (σ.wi 0 110 (0 : Int32)).i 0 k := fun k z1 => gi 0 k (by omega) (by omega)
    have hk := R.w3.1.2.1
    have hc := R.w3.2.1.2.1
    have l5 : (τ5.wi 0 15 (Int32.ofNat (n + 20))).l = (σ.wi 0 110 (0 : Int32)).l := g.2.1
    have r5 : (τ5.wi 0 15 (Int32.ofNat (n + 20))).r = (σ.wi 0 110 (0 : Int32)).r := g.2.2.1
    have s5 : (τ5.wi 0 15 (Int32.ofNat (n + 20))).sh = (σ.wi 0 110 (0 : Int32)).sh := g.1
    have w1 : SmW (σ.wi 0 110 (0 : Int32)) (τ5.wi 0 15 (Int32.ofNat (n + 20))) ∨ True := Or.inr trivial
    have N1 : NwS W lst m wy (τ5.wi 0 15 (Int32.ofNat (n + 20))) := by
      refine NwS.ge (E := fun a k => a = 37 ∨ (a = 0 ∧ k = 15)) (R.nw h1) ⟨s5, fun a k _ => by rw [r5], fun a k z1 _ _ _ => gi a k (by omega) (by omega), fun a _ => by rw [l5]⟩ (fun a k z => by unfold nwE; omega) F5
    have B1 : RbR W.1 W.2.1 W.2.2.2 (τ5.wi 0 15 (Int32.ofNat (n + 20))) := R.rb.mono hk.2 hc (fun a a1 a2 a3 => ⟨e a (by omega) (by omega), by rw [l5]⟩) (z0 41 (by decide))
    have tb : ∀ k, by8 (feT t n x1 x2 x3 x4 x5 k) ∧ (feT t n x1 x2 x3 x4 x5 k).toInt ≤ 127 := fun k => by
      unfold feT
      split
      · exact byB_b _
      · exact ⟨x05 k, x04 k⟩
    have ls : ∀ {A : Nat} {l : List Nat} {c : Nat}, A ≠ 0 → A ≠ 37 → LsS (σ.wi 0 110 (0 : Int32)) A l c → LsS (τ5.wi 0 15 (Int32.ofNat (n + 20))) A l c := fun {A l c} hA hA' L => L.mono (fun a s z => by rw [s5]; exact z) (by rw [e A hA hA']) (by rw [r5]) (fun b _ => by rw [r5])
    refine hK _ ⟨m, lst, cap, m7, lst7, cap7, ⟨F5, N1.2.1, N1.2.2.1, N1.2.2.2.1, B1, ⟨⟨by omega, wi_eq, fun k hk => ?_, fun k => (tb k).2⟩, fun k => (tb k).1⟩, ⟨ls (by decide) (by decide) R.n5.1, by rw [e 5 (by decide) (by decide)]; exact R.n5.2.1, R.n5.2.2⟩, ⟨ls (by decide) (by decide) R.n7.1, by rw [e 7 (by decide) (by decide)]; exact R.n7.2.1, R.n7.2.2⟩, by rw [r5]; exact R.dj, ?_⟩, ⟨(z0 83 (by decide)).trans h1.1, h1.2⟩, ⟨(z0 82 (by decide)).trans h2.1, h2.2⟩, ⟨(z0 81 (by decide)).trans h3.1, h3.2⟩, h4.same (e _ (by decide) (by decide)) (e _ (by decide) (by decide)), h5.same (e _ (by decide) (by decide)), (z0 112 (by decide)).trans h6, h7.keep (fun k z => z0 k (by omega)) (e _ (by decide) (by decide)) (e _ (by decide) (by decide)) (by rw [l5]), h8.keep (z0 111 (by decide)) (e _ (by decide) (by decide)), by omega, by rw [s5]; exact ⟨by have := h10.1; omega, by have := h10.2; omega⟩⟩ ((z0 110 (by decide)).trans wi_eq)
    · by_cases zk : n ≤ k ∧ k < n + 20
      · exact (wi_ne (by omega)).trans (g.2.2.2.2 k zk.1 (by omega))
      · rw [gi 37 k (by omega) (by omega), x03 k hk]
        unfold feT
        rw [if_neg (by omega)]
    · rw [r5]
      exact TrN.mono (σ := σ.wi 0 110 (0 : Int32)) (τ := τ5.wi 0 15 (Int32.ofNat (n + 20))) (fun y hy hys => by
        have := nd_ge R.fx hys
        exact ⟨hy, by rw [s5]; exact hys, e y (by omega) (by omega), by rw [l5], by rw [r5]⟩) _ _ R.tr
  · rw [if_neg z, if_neg z] at hK
    have hT : feT t n x1 x2 x3 x4 x5 = t := funext fun k => if_neg (by omega)
    rw [hT] at hK
    exact rc_no (th := 1) (h.w110 (v := 0)) (fun τ hA => hK τ hA.up)
/-! set -/
def seA (wy ch fuel : Nat) (a v : Int32) : An := if a = 0 ∧ 0 ≤ v.toInt ∧ v.toInt ≤ 3 then .inr (Int32.ofNat ch) else if a = 1 ∧ 0 ≤ v.toInt ∧ v.toInt ≤ 2 then .inr (Int32.ofNat wy) else if a = 2 ∧ 1 ≤ v.toInt ∧ v.toInt ≤ 100000 then .inr (Int32.ofNat fuel) else .inl 1
def seC (ch : Nat) (a v : Int32) : Nat := if a = 0 ∧ 0 ≤ v.toInt ∧ v.toInt ≤ 3 then v.toInt.toNat else ch
def seW (wy : Nat) (a v : Int32) : Nat := if a = 1 ∧ 0 ≤ v.toInt ∧ v.toInt ≤ 2 then v.toInt.toNat else wy
def seF (fuel : Nat) (a v : Int32) : Nat := if a = 2 ∧ 1 ≤ v.toInt ∧ v.toInt ≤ 100000 then v.toInt.toNat else fuel
theorem i32_le_k (v : Int32) (k : Nat) (hk : k < 2147483648) : (Int32.ofNat k < v ↔ (k : Int) < v.toInt) ∧ (v < Int32.ofNat k ↔ v.toInt < k) := by
  rw [Int32.lt_iff_toInt_lt, Int32.lt_iff_toInt_lt, oN_i hk]
  exact ⟨Iff.rfl, Iff.rfl⟩
theorem rc_set {a v : Int32} (h : RfA W pg t n wy ch fuel rs rn res q σ) (hK : RAns K (RfA W pg t n (seW wy a v) (seC ch a v) (seF fuel a v) rs rn res q) (seA wy ch fuel a v)) : B_X23_set_0 Z (d + 2) σ a v K := by
  have h0 := h.w110 (v := 0)
  have h00 := h0
  obtain ⟨m, lst, cap, m7, lst7, cap7, R, h1, h2, h3, h4, h5, h6, h7, h8, h9, h10⟩ := h0
  have F := h.fx
  unfold seW seC seF seA at hK
  have p62 : ¬ (a = 0 ∧ 0 ≤ v.toInt ∧ v.toInt ≤ 3) → ¬ (a = 1 ∧ 0 ≤ v.toInt ∧ v.toInt ≤ 2) → B_X23_set_62 Z (d + 2) (σ.wi 0 110 (0 : Int32)) a v K := fun n0 n1 => by
    rw [if_neg n0, if_neg n1, if_neg n0, if_neg n1] at hK
    have bad : ¬ (a = 2 ∧ 1 ≤ v.toInt ∧ v.toInt ≤ 100000) → B_X23_no__0 Z (d + 1) (σ.wi 0 110 (0 : Int32)) 1 (yI K fun v τ => K (.inl (some (.int v))) τ) := fun n2 => by
      rw [if_neg n2, if_neg n2] at hK
      exact rc_no (th := 1) h00 hK
    refine S_X23_set_62 R.fx ⟨fun z => bad (fun y => z y.1), fun z => ⟨fun z1 => bad ?_, fun z1 => ⟨fun z2 => bad ?_, fun z2 => ?_⟩⟩⟩
    · have := ((i32_le_k v 1 (by decide)).2).mp z1
      omega
    · have := ((i32_le_k v 100000 (by decide)).1).mp z2
      omega
    · have y1 : ¬ v.toInt < (1 : Nat) := fun y => z1 (((i32_le_k v 1 (by decide)).2).mpr y)
      have y2 : ¬ ((100000 : Nat) : Int) < v.toInt := fun y => z2 (((i32_le_k v 100000 (by decide)).1).mpr y)
      have y3 : a = 2 ∧ 1 ≤ v.toInt ∧ v.toInt ≤ 100000 := ⟨z, by omega, by omega⟩
      rw [if_pos y3, if_pos y3] at hK
      rw [h3.1]
      have e : ∀ x, x ≠ 0 → ((σ.wi 0 110 (0 : Int32)).wi 0 81 v).i x = (σ.wi 0 110 (0 : Int32)).i x := fun x hx => funext fun k => wi_ne (fun z => hx z.1)
      refine hK _ ⟨m, lst, cap, m7, lst7, cap7, R.w0 (by decide), ⟨(wi_ne (by decide)).trans h1.1, h1.2⟩, ⟨(wi_ne (by decide)).trans h2.1, h2.2⟩, ⟨?_, by omega, by omega⟩, h4.same (e _ (by decide)) (e _ (by decide)), h5.same (e _ (by decide)), (wi_ne (by decide)).trans h6, h7.keep (fun k z => wi_ne (by omega)) (e _ (by decide)) (e _ (by decide)) rfl, h8.keep (wi_ne (by decide)) (e _ (by decide)), h9, h10⟩ ((wi_ne (by decide)).trans wi_eq)
      rw [wi_eq]
      exact i_oN (by omega)
  have p31 : ¬ (a = 0 ∧ 0 ≤ v.toInt ∧ v.toInt ≤ 3) → B_X23_set_31 Z (d + 2) (σ.wi 0 110 (0 : Int32)) a v K := fun n0 => by
    refine S_X23_set_31 R.fx ⟨fun z => p62 n0 (fun y => z y.1), fun z => ⟨fun z1 => p62 n0 ?_, fun z1 => ⟨fun z2 => p62 n0 ?_, fun z2 => ?_⟩⟩⟩
    · rw [i32_lt0] at z1
      omega
    · have := ((i32_le_k v 2 (by decide)).1).mp z2
      omega
    · rw [i32_lt0] at z1
      have y2 : ¬ ((2 : Nat) : Int) < v.toInt := fun y => z2 (((i32_le_k v 2 (by decide)).1).mpr y)
      have y3 : a = 1 ∧ 0 ≤ v.toInt ∧ v.toInt ≤ 2 := ⟨z, by omega, by omega⟩
      have y4 : ¬ (a = 2 ∧ 1 ≤ v.toInt ∧ v.toInt ≤ 100000) := fun y => by rw [z] at y; exact absurd y.1 (by decide)
      rw [if_neg n0, if_pos y3, if_neg n0, if_pos y3, if_neg y4] at hK
      refine rf_forget R.fx (fun τ Fτ g hm => ?_)
      show K (.inl (some (.int ((σ.wi 0 110 (0 : Int32)).i 0 83)))) τ
      rw [h1.1]
      have gi : ∀ x, x ≠ 2069 → τ.i x = ((σ.wi 0 110 (0 : Int32)).wi 0 83 v).i x := g.2.2.2
      have e : ∀ x, x ≠ 0 → x ≠ 2069 → τ.i x = (σ.wi 0 110 (0 : Int32)).i x := fun x hx hx' => by rw [gi x hx']; exact funext fun k => wi_ne (fun z => hx z.1)
      have z0 : ∀ k, k ≠ 83 → τ.i 0 k = (σ.wi 0 110 (0 : Int32)).i 0 k := fun k hk => by rw [gi 0 (by decide)]; exact wi_ne (by omega)
      have e83 : τ.i 0 83 = Int32.ofNat v.toInt.toNat := by
        rw [gi 0 (by decide), wi_eq]
        exact i_oN (by omega)
      have hk := R.w3.1.2.1
      have hc := R.w3.2.1.2.1
      have hly := R.w3.2.2.2.1
      have sh' : τ.sh = (σ.wi 0 110 (0 : Int32)).sh := g.1
      have l' : τ.l = (σ.wi 0 110 (0 : Int32)).l := g.2.1
      have r' : τ.r = (σ.wi 0 110 (0 : Int32)).r := g.2.2.1
      have N1 : NwS W lst m v.toInt.toNat τ := by
        have N0 : NwS W lst m v.toInt.toNat ((σ.wi 0 110 (0 : Int32)).wi 0 83 v) := (R.w0 (k := 83) (v := v) (by decide)).nw ⟨by rw [wi_eq]; exact i_oN (by omega), by omega⟩
        exact NwS.ge (E := fun a _ => a = 2069) N0 ⟨g.1, fun a k _ => by rw [g.2.2.1], fun a k z1 _ _ _ => by rw [gi a z1], fun a _ => by rw [g.2.1]⟩ (fun a k z => by unfold nwE; omega) Fτ
      have B1 : RbR W.1 W.2.1 W.2.2.2 τ := R.rb.mono hk.2 hc (fun a a1 a2 a3 => ⟨e a (by omega) (by omega), by rw [l']⟩) (z0 41 (by decide))
      exact hK _ ⟨m, lst, cap, m7, lst7, cap7, R.gen sh' (fun a k _ => by rw [r']) (fun a k z => by rcases z with z | z | z; exact congrFun (e a (by omega) (by omega)) k; exact congrFun (e a (by omega) (by omega)) k; rw [z.1, z.2]; exact z0 15 (by decide)) (fun a k _ => by rw [l']) N1 B1, ⟨e83, by omega⟩, ⟨(z0 82 (by decide)).trans h2.1, h2.2⟩, ⟨(z0 81 (by decide)).trans h3.1, h3.2⟩, MmR.new hm, h5.same (e _ (by decide) (by decide)), (z0 112 (by decide)).trans h6, h7.keep (fun k z => z0 k (by omega)) (e _ (by decide) (by decide)) (e _ (by decide) (by decide)) (by rw [l']), h8.keep (z0 111 (by decide)) (e _ (by decide) (by decide)), h9, by rw [sh']; exact h10⟩ ((z0 110 (by decide)).trans wi_eq)
  refine S_X23_set_0 F ⟨fun z => p31 (fun y => z y.1), fun z => ⟨fun z1 => p31 ?_, fun z1 => ⟨fun z2 => p31 ?_, fun z2 => ?_⟩⟩⟩
  · rw [i32_lt0] at z1
    omega
  · have := ((i32_le_k v 3 (by decide)).1).mp z2
    omega
  · rw [i32_lt0] at z1
    have y2 : ¬ ((3 : Nat) : Int) < v.toInt := fun y => z2 (((i32_le_k v 3 (by decide)).1).mpr y)
    have y3 : a = 0 ∧ 0 ≤ v.toInt ∧ v.toInt ≤ 3 := ⟨z, by omega, by omega⟩
    have y4 : ¬ (a = 2 ∧ 1 ≤ v.toInt ∧ v.toInt ≤ 100000) := fun y => by rw [z] at y; exact absurd y.1 (by decide)
    have y5 : ¬ (a = 1 ∧ 0 ≤ v.toInt ∧ v.toInt ≤ 2) := fun y => by rw [z] at y; exact absurd y.1 (by decide)
    rw [if_pos y3, if_neg y5, if_pos y3, if_neg y4] at hK
    have e82 : σ.i 0 82 = Int32.ofNat ch := (wi_ne (by decide)).symm.trans h2.1
    rw [e82]
    have e : ∀ x, x ≠ 0 → ((σ.wi 0 110 (0 : Int32)).wi 0 82 v).i x = (σ.wi 0 110 (0 : Int32)).i x := fun x hx => funext fun k => wi_ne (fun z => hx z.1)
    refine hK _ ⟨m, lst, cap, m7, lst7, cap7, R.w0 (by decide), ⟨(wi_ne (by decide)).trans h1.1, h1.2⟩, ⟨?_, by omega⟩, ⟨(wi_ne (by decide)).trans h3.1, h3.2⟩, h4.same (e _ (by decide)) (e _ (by decide)), h5.same (e _ (by decide)), (wi_ne (by decide)).trans h6, h7.keep (fun k z => wi_ne (by omega)) (e _ (by decide)) (e _ (by decide)) rfl, h8.keep (wi_ne (by decide)) (e _ (by decide)), h9, h10⟩ ((wi_ne (by decide)).trans wi_eq)
    rw [wi_eq]
    exact i_oN (by omega)
end FEED

/-! THE CLASS: space, one side of a cut -/
theorem cmpG {x y : Int64} : 0 ≤ lg_cmp x y ↔ y.toInt ≤ x.toInt := by
  unfold lg_cmp
  split
  · rename_i h
    have h := Int64.lt_iff_toInt_lt.mp h
    exact ⟨fun _ => by omega, fun _ => by decide⟩
  · rename_i h
    split
    · rename_i e
      subst e
      exact ⟨fun _ => Int.le_refl _, fun _ => by decide⟩
    · rename_i e
      refine ⟨fun z => absurd z (by decide), fun z => absurd ?_ e⟩
      have h : ¬ y.toInt < x.toInt := fun q => h (Int64.lt_iff_toInt_lt.mpr q)
      exact Int64.toInt_inj.mp (by omega)
/-- a frame: all rows but those of E -/
def XF (E : Nat → Prop) (σ τ : Sg) : Prop := τ.sh = σ.sh ∧ τ.r = σ.r ∧ ∀ a, ¬ E a → τ.i a = σ.i a ∧ τ.l a = σ.l a
theorem XF.refl (E : Nat → Prop) (σ : Sg) : XF E σ σ := ⟨rfl, rfl, fun _ _ => ⟨rfl, rfl⟩⟩
theorem XF.tr {E : Nat → Prop} {σ τ υ : Sg} (h : XF E σ τ) (g : XF E τ υ) : XF E σ υ := ⟨g.1.trans h.1, g.2.1.trans h.2.1, fun a q => ⟨(g.2.2 a q).1.trans (h.2.2 a q).1, (g.2.2 a q).2.trans (h.2.2 a q).2⟩⟩
theorem XF.mono {E E' : Nat → Prop} {σ τ : Sg} (h : XF E σ τ) (g : ∀ a, E a → E' a) : XF E' σ τ := ⟨h.1, h.2.1, fun a q => h.2.2 a (fun z => q (g a z))⟩
theorem XF.fx {E : Nat → Prop} {σ τ : Sg} (h : XF E σ τ) (F : FX ΦC σ.sh σ.r) : FX ΦC τ.sh τ.r := by rw [h.1, h.2.1]; exact F
theorem XF.wi {E : Nat → Prop} {σ τ : Sg} {a k : Nat} {v : Int32} (h : XF E σ τ) (ha : E a) : XF E σ (τ.wi a k v) := ⟨h.1, h.2.1, fun b q => ⟨(funext fun j => wi_ne (fun z => q (by rw [z.1]; exact ha))).trans (h.2.2 b q).1, (h.2.2 b q).2⟩⟩
theorem XF.wl {E : Nat → Prop} {σ τ : Sg} {a k : Nat} {v : Int64} (h : XF E σ τ) (ha : E a) : XF E σ (τ.wl a k v) := ⟨h.1, h.2.1, fun b q => ⟨(h.2.2 b q).1, (funext fun j => wl_ne (fun z => q (by rw [z.1]; exact ha))).trans (h.2.2 b q).2⟩⟩
/-- the cuts, in the heap -/
def SpK (A : Nat) (cs : List Cut) (σ : Sg) : Prop := (σ.i A 7 = Int32.ofNat cs.length ∧ cs.length ≤ 36) ∧ ∀ (k : Nat) q, cs[k]? = some q → σ.i (A + 3) k = Int32.ofNat q.1 ∧ σ.i (A + 4) k = Int32.ofNat q.2.1 ∧ (σ.l (A + 5) k).toInt = q.2.2
def SpA (A : Nat) : Prop := A = 48 ∨ A = 75
theorem SpA.p {A : Nat} (h : SpA A) : sh0C[A]? = some (Sh.obj 10) := by
  rcases h with rfl | rfl <;> rfl
/-- the walk: at level L, s sides done there -/
def SpT (A : Nat) (cs : List Cut) (β : Nat → Bool) (L s : Nat) (σ : Sg) : Prop := FX ΦC σ.sh σ.r ∧ SpK A cs σ ∧ (σ.i A 10 = Int32.ofNat L ∧ L ≤ cs.length) ∧ (∀ l, l < L → σ.i (A + 6) l = if β l = true then 1 else 2) ∧ σ.i (A + 6) L = Int32.ofNat s ∧ (∀ l, l ≤ L → ∀ i j, i < 4 → j < 4 → (σ.l (A + 7) (16 * l + 4 * i + j)).toInt = mxF cs β l i j) ∧ (∀ l, l < L → tb (σ.l A 11) l = β l) ∧ NeP cs β L
/-- what going to a side comes to -/
def GsR (A : Nat) (cs : List Cut) (β : Nat → Bool) (L : Nat) (b : Bool) (σ τ : Sg) : Prop := (τ.sh = σ.sh ∧ τ.r = σ.r ∧ τ.i = σ.i) ∧ (∀ a, a ≠ A → a ≠ A + 7 → τ.l a = σ.l a) ∧ (∀ l, l < L → tb (τ.l A 11) l = tb (σ.l A 11) l) ∧ (∀ j, j < 16 * (L + 1) → τ.l (A + 7) j = σ.l (A + 7) j) ∧ (okS cs β L b → tb (τ.l A 11) L = b ∧ ∀ i j, i < 4 → j < 4 → (τ.l (A + 7) (16 * (L + 1) + 4 * i + j)).toInt = mxF cs (upB β L b) (L + 1) i j)
section SIDE
variable {Z : zT} {d A L s : Nat} {cs : List Cut} {β : Nat → Bool} {σ τ υ : Sg} {K : kS}
theorem ix4 (x y z : Nat) : Int32.ofNat x + Int32.ofNat y * (4 : Int32) + Int32.ofNat z = Int32.ofNat (x + y * 4 + z) := by
  rw [show (4 : Int32) = Int32.ofNat 4 from rfl, oN_mul, oN_add, oN_add]
theorem go_100 {b : Bool} {x : Int64} {q : Cut} (hA : SpA A) (hW : CuW cs) (S : SpT A cs β L s σ) (hL : L < cs.length) (hq : cuS cs L b = q) (hx : x.toInt = q.2.2) (hb : ∀ l, l < L → tb (σ.l A 11) l = β l) (k0 : ¬ okS cs β L b → K (.inl (some (.int 0))) σ) (k1 : okS cs β L b → ∀ τ, (τ.sh = σ.sh ∧ τ.r = σ.r ∧ τ.i = σ.i) → (∀ a, a ≠ A + 7 → τ.l a = σ.l a) → (∀ j, j < 16 * (L + 1) → τ.l (A + 7) j = σ.l (A + 7) j) → (∀ i j, i < 4 → j < 4 → (τ.l (A + 7) (16 * (L + 1) + 4 * i + j)).toInt = mxF cs (upB β L b) (L + 1) i j) → K (.inl (some (.int 1))) τ) : C_X9_goToSide_100 Z (d + 1) σ A (Int32.ofNat q.1) (Int32.ofNat q.2.1) x K := by
  obtain ⟨F, ⟨⟨s1, s2⟩, s3⟩, ⟨s4, s5⟩, s6, s7, s8, s9, s10⟩ := S
  obtain ⟨w1, w2, w3, w4⟩ := cuS_w (b := b) hW hL
  have bd : ∀ i j, i < 4 → j < 4 → -4294967295 ≤ mxF cs β L i j ∧ mxF cs β L i j ≤ 4294967295 := fun i j hi hj => mx_lo hW (Nat.le_of_lt hL) s10 hi hj
  rw [hq] at w1 w2 w3 w4
  have e16 : Int32.ofNat L * (16 : Int32) = Int32.ofNat (16 * L) := by
    rw [show (16 : Int32) = Int32.ofNat 16 from rfl, oN_mul, Nat.mul_comm]
  have e17 : Int32.ofNat (16 * L) + (16 : Int32) = Int32.ofNat (16 * L + 16) := by
    rw [show (16 : Int32) = Int32.ofNat 16 from rfl, oN_add]
  have ex : mxF cs (upB β L b) (L + 1) = dUp (mxF cs β L) q.1 q.2.1 q.2.2 := by
    show dUp (mxF cs (upB β L b) L) (cuS cs L (upB β L b L)).1 (cuS cs L (upB β L b L)).2.1 (cuS cs L (upB β L b L)).2.2 = _
    rw [up_at, hq, mx_cg (γ := β) L (fun k hk => up_lt hk)]
  have rd : ∀ i j, i < 4 → j < 4 → (σ.l (A + 7) (16 * L + i * 4 + j)).toInt = mxF cs β L i j := fun i j hi hj => by
    rw [show 16 * L + i * 4 + j = 16 * L + 4 * i + j by omega]
    exact s8 L (Nat.le_refl _) i j hi hj
  have ok : okS cs β L b ↔ 0 ≤ mxF cs β L q.2.1 q.1 + q.2.2 := by
    unfold okS
    rw [hq]
  have r0 := rd q.2.1 q.1 w2 w1
  have b0 := bd q.2.1 q.1 w2 w1
  have ev : (σ.l (A + 7) (16 * L + q.2.1 * 4 + q.1) + x).toInt = mxF cs β L q.2.1 q.1 + q.2.2 := by
    rw [i64_add] <;> rw [r0, hx] <;> omega
  -- written so far
  have in153 : okS cs β L b → ∀ (m a y : Nat) (τ : Sg), 4 - y ≤ m → a < 4 → y ≤ 4 → (τ.sh = σ.sh ∧ τ.r = σ.r ∧ τ.i = σ.i) → (∀ c, c ≠ A + 7 → τ.l c = σ.l c) → (∀ j, j < 16 * (L + 1) → τ.l (A + 7) j = σ.l (A + 7) j) → (∀ i j, i < 4 → j < 4 → 4 * i + j < 4 * a + y → (τ.l (A + 7) (16 * (L + 1) + 4 * i + j)).toInt = mxF cs (upB β L b) (L + 1) i j) → (∀ τ', (τ'.sh = σ.sh ∧ τ'.r = σ.r ∧ τ'.i = σ.i) → (∀ c, c ≠ A + 7 → τ'.l c = σ.l c) → (∀ j, j < 16 * (L + 1) → τ'.l (A + 7) j = σ.l (A + 7) j) → (∀ i j, i < 4 → j < 4 → 4 * i + j < 4 * (a + 1) → (τ'.l (A + 7) (16 * (L + 1) + 4 * i + j)).toInt = mxF cs (upB β L b) (L + 1) i j) → C_X9_goToSide_144 Z (d + 1) τ' A (Int32.ofNat q.1) (Int32.ofNat q.2.1) x (Int32.ofNat (16 * L)) (Int32.ofNat (16 * L + 16)) (Int32.ofNat (a + 1)) K) → C_X9_goToSide_153 Z (d + 1) τ A (Int32.ofNat q.1) (Int32.ofNat q.2.1) x (Int32.ofNat (16 * L)) (Int32.ofNat (16 * L + 16)) (Int32.ofNat a) (Int32.ofNat y) K := by
    intro hok m
    induction m with
    | zero =>
      intro a y τ hm ha hy g gl gj gw kk
      refine T_X9_goToSide_153 (by rw [g.1, g.2.1]; exact F) hA.p ⟨fun _ => ?_, fun z => absurd ?_ z⟩
      · rw [oN_1]
        exact kk τ g gl gj (fun i j hi hj h => gw i j hi hj (by omega))
      · rw [show (4 : Int32) = Int32.ofNat 4 from rfl, oN_le (by decide) (by omega)]
        omega
    | succ m ih =>
      intro a y τ hm ha hy g gl gj gw kk
      have Fτ : FX ΦC τ.sh τ.r := by rw [g.1, g.2.1]; exact F
      refine T_X9_goToSide_153 Fτ hA.p ?_
      rw [show (4 : Int32) ≤ Int32.ofNat y ↔ 4 ≤ y from oN_le (a := 4) (by decide) (by omega), oN_1, oN_1, ix4, ix4, ix4, ix4, oN_t (by omega), oN_t (by omega), oN_t (by omega), oN_t (by omega)]
      refine ⟨fun z => kk τ g gl gj (fun i j hi hj h => gw i j hi hj (by omega)), fun z => ?_⟩
      have t1 := rd a y ha (by omega)
      have t2 := rd a q.1 ha w1
      have t3 := rd q.2.1 y w2 (by omega)
      have b1 := bd a y ha (by omega)
      have b2 := bd a q.1 ha w1
      have b3 := bd q.2.1 y w2 (by omega)
      rw [← gj _ (by omega)] at t1 t2 t3
      have v1 : (τ.l (A + 7) (16 * L + a * 4 + q.1) + x).toInt = mxF cs β L a q.1 + q.2.2 := by
        rw [i64_add] <;> rw [t2, hx] <;> omega
      have v2 : (τ.l (A + 7) (16 * L + a * 4 + q.1) + x + τ.l (A + 7) (16 * L + q.2.1 * 4 + y)).toInt = mxF cs β L a q.1 + q.2.2 + mxF cs β L q.2.1 y := by
        rw [i64_add] <;> rw [v1, t3] <;> omega
      have nx : ∀ v : Int64, v.toInt = mxF cs (upB β L b) (L + 1) a y → C_X9_goToSide_153 Z (d + 1) (τ.wl (A + 7) (16 * L + 16 + a * 4 + y) v) A (Int32.ofNat q.1) (Int32.ofNat q.2.1) x (Int32.ofNat (16 * L)) (Int32.ofNat (16 * L + 16)) (Int32.ofNat a) (Int32.ofNat (y + 1)) K := fun v hv => by
        refine ih a (y + 1) _ (by omega) ha (by omega) g (fun c hc => (funext fun j => wl_ne (fun z => hc z.1)).trans (gl c hc)) (fun j hj => (wl_ne (by omega)).trans (gj j hj)) (fun i j hi hj h => ?_) kk
        by_cases e : i = a ∧ j = y
        · rw [e.1, e.2, show 16 * (L + 1) + 4 * a + y = 16 * L + 16 + a * 4 + y by omega, wl_l, if_pos ⟨rfl, rfl⟩]
          exact hv
        · rw [wl_ne (by omega)]
          exact gw i j hi hj (by omega)
      rw [cmpG, v2, t1]
      refine ⟨ib_oN (by omega) (by decide), ib_oN (by omega) (by decide), ib_oN (by omega) (by decide), fun z2 => ⟨ib_oN (by omega) (by decide), nx _ ?_⟩, fun z2 => ⟨ib_oN (by omega) (by decide), nx _ ?_⟩⟩
      · rw [t1, ex]
        unfold dUp
        rw [if_neg (by omega)]
      · rw [v2, ex]
        unfold dUp
        rw [if_pos (by omega)]
  have in144 : okS cs β L b → ∀ (m a : Nat) (τ : Sg), 4 - a ≤ m → a ≤ 4 → (τ.sh = σ.sh ∧ τ.r = σ.r ∧ τ.i = σ.i) → (∀ c, c ≠ A + 7 → τ.l c = σ.l c) → (∀ j, j < 16 * (L + 1) → τ.l (A + 7) j = σ.l (A + 7) j) → (∀ i j, i < 4 → j < 4 → 4 * i + j < 4 * a → (τ.l (A + 7) (16 * (L + 1) + 4 * i + j)).toInt = mxF cs (upB β L b) (L + 1) i j) → C_X9_goToSide_144 Z (d + 1) τ A (Int32.ofNat q.1) (Int32.ofNat q.2.1) x (Int32.ofNat (16 * L)) (Int32.ofNat (16 * L + 16)) (Int32.ofNat a) K := by
    intro hok m
    induction m with
    | zero =>
      intro a τ hm ha g gl gj gw
      refine T_X9_goToSide_144 (by rw [g.1, g.2.1]; exact F) hA.p ⟨fun _ => k1 hok τ g gl gj (fun i j hi hj => gw i j hi hj (by omega)), fun z => absurd ?_ z⟩
      rw [show (4 : Int32) = Int32.ofNat 4 from rfl, oN_le (by decide) (by omega)]
      omega
    | succ m ih =>
      intro a τ hm ha g gl gj gw
      refine T_X9_goToSide_144 (by rw [g.1, g.2.1]; exact F) hA.p ?_
      rw [show (4 : Int32) ≤ Int32.ofNat a ↔ 4 ≤ a from oN_le (a := 4) (by decide) (by omega)]
      refine ⟨fun z => k1 hok τ g gl gj (fun i j hi hj => gw i j hi hj (by omega)), fun z => ?_⟩
      exact in153 hok 4 a 0 τ (by omega) (by omega) (by omega) g gl gj (fun i j hi hj h => gw i j hi hj (by omega)) (fun τ' g1 g2 g3 g4 => ih (a + 1) τ' (by omega) (by omega) g1 g2 g3 g4)
  refine T_X9_goToSide_100 F hA.p ?_
  rw [s4, e16, e17, ix4, oN_t (by omega), cmp0, ev]
  refine ⟨ib_oN (by omega) (by decide), fun z => ?_, fun z => k0 (fun q' => z (ok.mp q'))⟩
  exact in144 (ok.mpr z) 4 0 σ (by omega) (by omega) ⟨rfl, rfl, rfl⟩ (fun _ _ => rfl) (fun _ _ => rfl) (fun i j hi hj h => by omega)
theorem cl_goSide {b : Bool} (hA : SpA A) (hW : CuW cs) (S : SpT A cs β L s σ) (hL : L < cs.length) (k : ∀ τ, GsR A cs β L b σ τ → (okS cs β L b → K (.inl (some (.int 1))) τ) ∧ (¬ okS cs β L b → K (.inl (some (.int 0))) τ)) : C_X9_goToSide_0 Z (d + 1) σ A (if b = true then 0 else 1) K := by
  have S' := S
  obtain ⟨F, ⟨⟨s1, s2⟩, s3⟩, ⟨s4, s5⟩, s6, s7, s8, s9, s10⟩ := S
  obtain ⟨p, hp⟩ : ∃ p, cs[L]? = some p := ⟨_, List.getElem?_eq_getElem hL⟩
  obtain ⟨c1, c2, c3⟩ := s3 L p hp
  obtain ⟨w1, w2, w3, w4⟩ := hW L p hp
  have n7 : A ≠ A + 7 := by omega
  -- behind the bit
  have go : ∀ (v : Int64) (x : Int64), (∀ l, l < L → tb v l = tb (σ.l A 11) l) → tb v L = b → x.toInt = (cuS cs L b).2.2 → C_X9_goToSide_100 Z (d + 1) (σ.wl A 11 v) A (Int32.ofNat (cuS cs L b).1) (Int32.ofNat (cuS cs L b).2.1) x K := fun v x hv hvL hx => by
    have e11 : (σ.wl A 11 v).l A 11 = v := by rw [wl_l, if_pos ⟨rfl, rfl⟩]
    have e7 : ∀ a, a ≠ A → (σ.wl A 11 v).l a = σ.l a := fun a ha => funext fun j => wl_ne (fun z => ha z.1)
    have St : SpT A cs β L s (σ.wl A 11 v) := ⟨F, ⟨⟨s1, s2⟩, fun k q hq => by
      obtain ⟨q1, q2, q3⟩ := s3 k q hq
      exact ⟨q1, q2, by rw [e7 _ (by omega)]; exact q3⟩⟩, ⟨s4, s5⟩, s6, s7, fun l hl i j hi hj => by rw [e7 _ (by omega)]; exact s8 l hl i j hi hj, fun l hl => by rw [e11, hv l hl]; exact s9 l hl, s10⟩
    refine go_100 hA hW St hL rfl hx (fun l hl => by rw [e11, hv l hl]; exact s9 l hl) (fun no => (k (σ.wl A 11 v) ⟨⟨rfl, rfl, rfl⟩, fun a q _ => e7 a q, fun l hl => by rw [e11]; exact hv l hl, fun j _ => by rw [e7 _ (by omega)], fun ok => absurd ok no⟩).2 no) (fun ok τ g gl gj gw => (k τ ⟨g, fun a q1 q2 => (gl a q2).trans (e7 a q1), fun l hl => by rw [gl A n7, e11]; exact hv l hl, fun j hj => by rw [gj j hj, e7 _ (by omega)], fun _ => ⟨by rw [gl A n7, e11]; exact hvL, gw⟩⟩).1 ok)
  have cS : cuS cs L b = if b = true then p else (p.2.1, p.1, -p.2.2 - 1) := by
    unfold cuS
    rw [hp]
  refine T_X9_goToSide_0 F hA.p ?_
  rw [s4, oN_t (by omega), c1, c2]
  refine ⟨ib_oN (by omega) (by decide), ib_oN (by omega) (by decide), ib_oN (by omega) (by decide), ?_⟩
  cases b with
  | true =>
    rw [if_pos rfl] at cS
    refine ⟨fun z => absurd rfl z, fun _ => ?_⟩
    have := go (σ.l A 11 ||| ((1 : Int64) <<< (Int32.toInt64 (Int32.ofNat L) &&& 63))) (σ.l (A + 5) L) (fun l hl => by rw [tb_or, tb_one (by omega) (by omega), decide_eq_false (by omega), Bool.or_false]) (by rw [tb_or, tb_one (by omega) (by omega), decide_eq_true (by omega), Bool.or_true]) (by rw [cS]; exact c3)
    rw [cS] at this
    exact this
  | false =>
    rw [if_neg (by decide)] at cS
    refine ⟨fun _ => ⟨ib_oN (by omega) (by decide), ib_oN (by omega) (by decide), ?_⟩, fun z => absurd z (by decide)⟩
    have xm : ((-(σ.l (A + 5) L)) - (1 : Int64)).toInt = -p.2.2 - 1 := by
      have e1 : (-(σ.l (A + 5) L)).toInt = -p.2.2 := by rw [i64_neg (by rw [c3]; omega), c3]
      rw [Int64.toInt_sub, e1, show (1 : Int64).toInt = 1 from rfl, Int.bmod_def]
      omega
    have := go (σ.l A 11 &&& (((1 : Int64) <<< (Int32.toInt64 (Int32.ofNat L) &&& 63)) ^^^ (-1 : Int64))) ((-(σ.l (A + 5) L)) - (1 : Int64)) (fun l hl => by rw [tb_and, tb_xor, tb_one (by omega) (by omega), decide_eq_false (by omega), tb_m1 (by omega)]; cases tb (σ.l A 11) l <;> rfl) (by rw [tb_and, tb_xor, tb_one (by omega) (by omega), decide_eq_true (by omega), tb_m1 (by omega)]; cases tb (σ.l A 11) L <;> rfl) (by rw [cS]; exact xm)
    rw [cS] at this
    exact this
end SIDE

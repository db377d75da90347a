/-! LAYERS: four bits each in a long -/
def enL : List Nat → Nat
  | [] => 0
  | l :: r => (l + 1) + 16 * enL r
theorem enL_lt : ∀ on : List Nat, (∀ l ∈ on, l < 15) → enL on < 16 ^ on.length
  | [], _ => by decide
  | l :: r, h => by
    have h1 := h l (List.mem_cons_self ..)
    have h2 := enL_lt r (fun x hx => h x (List.mem_cons_of_mem _ hx))
    rw [enL, List.length_cons, Nat.pow_succ]
    omega
theorem i64_nn {e : Nat} (h : e < 9223372036854775808) : (Int64.ofNat e).toBitVec.toNat = e := by
  show (BitVec.ofNat 64 e).toNat = e
  rw [BitVec.toNat_ofNat]
  omega
theorem i64_e {x : Int64} {e : Nat} (h : e < 9223372036854775808) (hx : x.toBitVec.toNat = e) : x = Int64.ofNat e := by
  apply Int64.toBitVec_inj.mp
  apply BitVec.eq_of_toNat_eq
  rw [hx, i64_nn h]
theorem n4_and {e : Nat} (h : e < 9223372036854775808) : Int64.ofNat e &&& (15 : Int64) = Int64.ofNat (e % 16) := by
  refine i64_e (by omega) ?_
  rw [Int64.toBitVec_and, BitVec.toNat_and, i64_nn h, show (15 : Int64).toBitVec.toNat = 2 ^ 4 - 1 from rfl, Nat.and_two_pow_sub_one_eq_mod]
theorem n4_sh {e k : Nat} (h : e < 9223372036854775808) (hk : 4 * k < 64) : ((Int64.toUInt64 (Int64.ofNat e) >>> ((Int32.toInt64 (Int32.ofNat (4 * k))).toUInt64 &&& Int64.toUInt64 63)).toInt64) = Int64.ofNat (e / 16 ^ k) := by
  have key : ∀ j : Fin 64, ((Int32.toInt64 (Int32.ofNat j.val)).toUInt64 &&& Int64.toUInt64 63) = UInt64.ofNat j.val := by decide +kernel
  rw [key ⟨4 * k, hk⟩]
  have hle : e / 16 ^ k ≤ e := Nat.div_le_self _ _
  refine i64_e (by omega) ?_
  show (Int64.toUInt64 (Int64.ofNat e) >>> UInt64.ofNat (4 * k)).toNat = _
  rw [UInt64.toNat_shiftRight, Nat.shiftRight_eq_div_pow]
  have e1 : (Int64.toUInt64 (Int64.ofNat e)).toNat = e := i64_nn h
  have e2 : (UInt64.ofNat (4 * k)).toNat % 64 = 4 * k := by
    rw [UInt64.toNat_ofNat_of_lt' (by show 4 * k < 2 ^ 64; omega)]
    omega
  rw [e1, e2, Nat.pow_mul]
theorem n4_or {r q k : Nat} (hr : r < 16 ^ k) (hq : q < 16) (hk : k ≤ 14) : Int64.ofNat r ||| (Int64.ofNat q <<< (Int32.toInt64 (Int32.ofNat (4 * k)) &&& 63)) = Int64.ofNat (r + q * 16 ^ k) := by
  have hp : (16 : Nat) ^ k ≤ 16 ^ 14 := Nat.pow_le_pow_right (by decide) hk
  have hp14 : (16 : Nat) ^ 14 = 72057594037927936 := by decide
  have hqk : q * 16 ^ k ≤ 15 * 16 ^ k := Nat.mul_le_mul_right _ (by omega)
  have key : ∀ j : Fin 64, (Int32.toInt64 (Int32.ofNat j.val) &&& 63) = Int64.ofNat j.val := by decide +kernel
  rw [key ⟨4 * k, by omega⟩]
  refine i64_e (by omega) ?_
  rw [Int64.toBitVec_or, BitVec.toNat_or, i64_nn (by omega), Int64.toBitVec_shiftLeft, mv_s ⟨4 * k, by omega⟩]
  have e1 : ((Int64.ofNat q).toBitVec <<< BitVec.ofNat 64 (4 * k)).toNat = q <<< (4 * k) := by
    rw [BitVec.shiftLeft_eq', BitVec.toNat_shiftLeft, i64_nn (by omega), BitVec.toNat_ofNat, Nat.mod_eq_of_lt (a := 4 * k) (by omega), Nat.shiftLeft_eq, Nat.mod_eq_of_lt]
    rw [Nat.pow_mul]
    show q * 16 ^ k < _
    omega
  show r ||| ((Int64.ofNat q).toBitVec <<< BitVec.ofNat 64 (4 * k)).toNat = _
  rw [e1, Nat.or_comm, ← Nat.shiftLeft_add_eq_or_of_lt (by rw [Nat.pow_mul]; exact hr), Nat.shiftLeft_eq, Nat.pow_mul]
  show q * 16 ^ k + r = _
  omega
theorem i64_oi {e : Nat} (h : e < 9223372036854775808) : (Int64.ofNat e).toInt = e := by
  show (Int64.ofNat e).toBitVec.toInt = e
  rw [BitVec.toInt_eq_toNat_cond, i64_nn h, if_pos (by omega)]
theorem cmpE {a b : Int64} : lg_cmp a b = 0 ↔ a = b := by
  unfold lg_cmp
  split
  · rename_i h
    refine ⟨fun z => absurd z (by decide), fun z => ?_⟩
    subst z
    exact absurd h (Int64.lt_irrefl)
  · split
    · rename_i e
      exact ⟨fun _ => e, fun _ => rfl⟩
    · rename_i e
      exact ⟨fun z => absurd z (by decide), fun z => absurd z e⟩
theorem i64_oE {a b : Nat} (ha : a < 9223372036854775808) (hb : b < 9223372036854775808) : Int64.ofNat a = Int64.ofNat b ↔ a = b := by
  constructor
  · intro z
    have := congrArg Int64.toInt z
    rw [i64_oi ha, i64_oi hb] at this
    omega
  · intro z
    rw [z]
theorem cmpN {a b : Nat} (ha : a < 9223372036854775808) (hb : b < 9223372036854775808) : lg_cmp (Int64.ofNat a) (Int64.ofNat b) = 0 ↔ a = b := by
  rw [cmpE, i64_oE ha hb]
theorem oN_64 {n : Nat} (h : n < 2147483648) : Int32.toInt64 (Int32.ofNat n) = Int64.ofNat n := by
  apply Int64.toInt_inj.mp
  rw [Int32.toInt_toInt64, oN_i h, i64_oi (by omega)]
theorem enL_b {on : List Nat} (h : ∀ l ∈ on, l < 8) (h8 : on.length ≤ 8) : enL on < 4294967296 := by
  have h1 := enL_lt on (fun l hl => by have := h l hl; omega)
  have h2 : (16 : Nat) ^ on.length ≤ 16 ^ 8 := Nat.pow_le_pow_right (by decide) h8
  have h3 : (16 : Nat) ^ 8 = 4294967296 := by decide
  omega
section LAYERS
variable {Z : zT} {d : Nat} {σ : Sg} {K : kS}
/-- isOn() -/
theorem rf_isOn (F : FX ΦR σ.sh σ.r) {l : Nat} (hl : l < 8) : ∀ (on : List Nat), (∀ x ∈ on, x < 8) → on.length ≤ 8 → K (.inl (some (.int (if l ∈ on then 1 else 0)))) σ → B_X23_isOn_2 Z (d + 1) σ (Int32.ofNat l) (Int64.ofNat (enL on)) K
  | [], _, _, h => S_X23_isOn_2 F ⟨fun _ => h, fun z => absurd (by decide) z⟩
  | x :: r, h1, h8, h => by
    have hx := h1 x (List.mem_cons_self ..)
    have hr : ∀ y ∈ r, y < 8 := fun y hy => h1 y (List.mem_cons_of_mem _ hy)
    have hb := enL_b h1 h8
    have h8' : r.length + 1 ≤ 8 := h8
    have e : enL (x :: r) = (x + 1) + 16 * enL r := rfl
    refine S_X23_isOn_2 F ⟨fun z => ?_, fun _ => ?_⟩
    · exfalso
      rw [show (0 : Int64) = Int64.ofNat 0 from rfl, cmpN (by omega) (by omega)] at z
      omega
    · rw [n4_and (by omega), oN_1, oN_64 (by omega), cmpN (by omega) (by omega)]
      refine ⟨fun z => ?_, fun z => ?_⟩
      · have := n4_sh (e := enL (x :: r)) (k := 1) (by omega) (by decide)
        rw [show ((Int64.toUInt64 (Int64.ofNat (enL (x :: r))) >>> ((Int32.toInt64 (4 : Int32)).toUInt64 &&& Int64.toUInt64 63)).toInt64) = Int64.ofNat (enL (x :: r) / 16 ^ 1) from this]
        rw [show enL (x :: r) / 16 ^ 1 = enL r by omega]
        refine rf_isOn F hl r hr (by omega) ?_
        have : (l ∈ x :: r) ↔ l ∈ r := by
          rw [List.mem_cons]
          constructor
          · rintro (q | q)
            · omega
            · exact q
          · exact fun q => Or.inr q
        simp only [this] at h
        exact h
      · have : l ∈ x :: r := by
          rw [show l = x by omega]
          exact List.mem_cons_self ..
        rw [if_pos this] at h
        exact h
theorem enL_app : ∀ (a b : List Nat), enL (a ++ b) = enL a + 16 ^ a.length * enL b
  | [], b => by
    show enL b = 0 + 1 * enL b
    omega
  | x :: r, b => by
    show (x + 1) + 16 * enL (r ++ b) = (x + 1) + 16 * enL r + 16 ^ (r.length + 1) * enL b
    rw [enL_app r b, Nat.pow_succ, Nat.mul_add, ← Nat.mul_assoc, Nat.mul_comm 16 (16 ^ r.length)]
    omega
theorem rf_without8 (F : FX ΦR σ.sh σ.r) {l : Nat} (hl : l < 8) : ∀ (on acc : List Nat), (∀ x ∈ on, x < 8) → (∀ x ∈ acc, x < 8) → acc.length + on.length ≤ 8 → K (.inl (some (.long (Int64.ofNat (enL (acc ++ on.filter (· ≠ l))))))) σ → B_X23_without_8 Z (d + 1) σ (Int32.ofNat l) (Int64.ofNat (enL acc)) (Int32.ofNat acc.length) (Int64.ofNat (enL on)) K
  | [], acc, _, _, _, h => by
    rw [show acc ++ List.filter (· ≠ l) [] = acc from List.append_nil _] at h
    exact S_X23_without_8 F ⟨fun _ => h, fun z => absurd (by decide) z⟩
  | x :: r, acc, h1, h2, h8, h => by
    have hx := h1 x (List.mem_cons_self ..)
    have hr : ∀ y ∈ r, y < 8 := fun y hy => h1 y (List.mem_cons_of_mem _ hy)
    have h8' : acc.length + (r.length + 1) ≤ 8 := h8
    have hb := enL_b h1 (by show r.length + 1 ≤ 8; omega)
    have ha := enL_lt acc (fun y hy => by have := h2 y hy; omega)
    have e : enL (x :: r) = (x + 1) + 16 * enL r := rfl
    refine S_X23_without_8 F ⟨fun z => ?_, fun _ => ?_⟩
    · exfalso
      rw [show (0 : Int64) = Int64.ofNat 0 from rfl, cmpN (by omega) (by omega)] at z
      omega
    · have := n4_sh (e := enL (x :: r)) (k := 1) (by omega) (by decide)
      rw [show ((Int64.toUInt64 (Int64.ofNat (enL (x :: r))) >>> ((Int32.toInt64 (4 : Int32)).toUInt64 &&& Int64.toUInt64 63)).toInt64) = Int64.ofNat (enL (x :: r) / 16 ^ 1) from this, show enL (x :: r) / 16 ^ 1 = enL r by omega]
      rw [n4_and (by omega), oN_1, oN_64 (by omega), cmpN (by omega) (by omega)]
      refine ⟨fun z => ?_, fun z => ?_⟩
      · rw [oN_1, show (4 : Int32) = Int32.ofNat 4 from rfl, oN_mul, n4_or ha (by omega) (by omega)]
        have e2 : enL acc + enL (x :: r) % 16 * 16 ^ acc.length = enL (acc ++ [x]) := by
          rw [enL_app]
          show _ = enL acc + 16 ^ acc.length * (x + 1 + 16 * 0)
          rw [show enL (x :: r) % 16 = x + 1 + 16 * 0 by omega, Nat.mul_comm]
        rw [e2, show acc.length + 1 = (acc ++ [x]).length by rw [List.length_append]; rfl]
        refine rf_without8 F hl r (acc ++ [x]) hr (fun y hy => ?_) (by rw [List.length_append]; show acc.length + 1 + r.length ≤ 8; omega) ?_
        · rcases List.mem_append.mp hy with q | q
          · exact h2 y q
          · rw [List.mem_singleton] at q
            omega
        · have : List.filter (· ≠ l) (x :: r) = x :: List.filter (· ≠ l) r := by
            rw [List.filter_cons, if_pos]
            simp
            omega
          rw [this] at h
          rw [List.append_assoc]
          exact h
      · refine rf_without8 F hl r acc hr h2 (by omega) ?_
        have : List.filter (· ≠ l) (x :: r) = List.filter (· ≠ l) r := by
          rw [List.filter_cons, if_neg]
          simp
          omega
        rw [this] at h
        exact h
theorem rf_without (F : FX ΦR σ.sh σ.r) {l : Nat} (hl : l < 8) {on : List Nat} (h1 : ∀ x ∈ on, x < 8) (h8 : on.length ≤ 8) (h : K (.inl (some (.long (Int64.ofNat (enL (on.filter (· ≠ l))))))) σ) : B_X23_without_0 Z (d + 1) σ (Int64.ofNat (enL on)) (Int32.ofNat l) K := S_X23_without_0 F (rf_without8 F hl on [] h1 (fun x hx => by cases hx) (by show 0 + on.length ≤ 8; omega) h)
theorem enL_div : ∀ (on : List Nat) (j : Nat), (∀ x ∈ on, x < 15) → (enL on / 16 ^ j = 0 ↔ on.length ≤ j)
  | [], j, _ => by
    show 0 / 16 ^ j = 0 ↔ 0 ≤ j
    rw [Nat.zero_div]
    exact ⟨fun _ => Nat.zero_le _, fun _ => rfl⟩
  | x :: r, 0, _ => by
    show (x + 1 + 16 * enL r) / 1 = 0 ↔ r.length + 1 ≤ 0
    omega
  | x :: r, j + 1, h => by
    have hx := h x (List.mem_cons_self ..)
    have ih := enL_div r j (fun y hy => h y (List.mem_cons_of_mem _ hy))
    show (x + 1 + 16 * enL r) / 16 ^ (j + 1) = 0 ↔ r.length + 1 ≤ j + 1
    rw [Nat.pow_succ, Nat.mul_comm (16 ^ j) 16, ← Nat.div_div_eq_div_mul, show (x + 1 + 16 * enL r) / 16 = enL r by omega, ih]
    omega
theorem rf_with (F : FX ΦR σ.sh σ.r) {l : Nat} (hl : l < 8) {on : List Nat} (h1 : ∀ x ∈ on, x < 8) (h8 : (on.filter (· ≠ l)).length ≤ 8) (h8' : on.length ≤ 8) (h : K (.inl (some (.long (Int64.ofNat (enL (on.filter (· ≠ l) ++ [l])))))) σ) : B_X23_with_0 Z (d + 2) σ (Int64.ofNat (enL on)) (Int32.ofNat l) K := by
  refine S_X23_with_0 F (rf_without F hl h1 h8' ?_)
  generalize hR : on.filter (· ≠ l) = R at *
  have hRb : ∀ x ∈ R, x < 8 := fun x hx => by
    rw [← hR] at hx
    exact h1 x (List.mem_filter.mp hx).1
  have hb := enL_b hRb h8
  have loop : ∀ m j, R.length - j = m → j ≤ R.length → B_X23_with_9 Z (d + 2) σ (Int32.ofNat l) (Int64.ofNat (enL R)) (Int32.ofNat j) K := by
    intro m
    induction m with
    | zero =>
      intro j hm hj
      have e : j = R.length := by omega
      subst e
      refine S_X23_with_9 F ⟨fun _ => ?_, fun z => ?_⟩
      · rw [show (4 : Int32) = Int32.ofNat 4 from rfl, oN_mul, oN_1, oN_64 (by omega), n4_or (enL_lt R (fun y hy => by have := hRb y hy; omega)) (by omega) (by omega)]
        rw [enL_app] at h
        rw [Nat.mul_comm]
        exact h
      · exfalso
        refine z ?_
        rw [show (4 : Int32) = Int32.ofNat 4 from rfl, oN_mul, n4_sh (by omega) (by omega), (enL_div R R.length (fun y hy => by have := hRb y hy; omega)).mpr (Nat.le_refl _)]
        decide
    | succ m ih =>
      intro j hm hj
      refine S_X23_with_9 F ⟨fun z => ?_, fun _ => ?_⟩
      · exfalso
        rw [show (4 : Int32) = Int32.ofNat 4 from rfl, oN_mul, n4_sh (by omega) (by omega), show (0 : Int64) = Int64.ofNat 0 from rfl, cmpN (by have := Nat.div_le_self (enL R) (16 ^ j); omega) (by omega), enL_div R j (fun y hy => by have := hRb y hy; omega)] at z
        omega
      · rw [oN_1]
        exact ih (j + 1) (by omega) (by omega)
  exact loop R.length 0 rfl (Nat.zero_le _)
end LAYERS
/-! THE REFERENCE: isTrue(), applies() -/
theorem cmpP {v : Int64} : 0 < lg_cmp v 0 ↔ 0 < v.toInt := by
  unfold lg_cmp
  have e0 : (0 : Int64).toInt = 0 := rfl
  split
  · rename_i h
    have h := Int64.lt_iff_toInt_lt.mp h
    rw [e0] at h
    exact ⟨fun _ => h, fun _ => by decide⟩
  · rename_i h
    have h : ¬ (0 : Int64).toInt < v.toInt := fun q => h (Int64.lt_iff_toInt_lt.mpr q)
    rw [e0] at h
    split
    · exact ⟨fun z => absurd z (by decide), fun z => absurd z h⟩
    · exact ⟨fun z => absurd z (by decide), fun z => absurd z h⟩
/-- the arguments: kinds and numbers -/
def ArS (kA vA : Nat) (k : Nat → Nat) (v : Nat → Int) (kn pl : Nat) (σ : Sg) : Prop := (σ.sh[kA]? = some (Sh.arr 0 3) ∧ σ.sh[vA]? = some (Sh.arr 0 3)) ∧ ∀ i, i < pl → (σ.i kA i = Int32.ofNat (k i) ∧ k i < kn) ∧ σ.i vA i = Int32.ofInt (v i) ∧ (-2147483648 ≤ v i ∧ v i ≤ 2147483647)
section APPL
variable {Z : zT} {W : Wld} {lst : List Nat} {b wy : Nat} {σ : Sg} {K : kS} {kA vA kn pl m : Nat} {k : Nat → Nat} {v : Nat → Int} {bl : Nat → Nat → Bool} {A : Nat → Prop}
theorem rf_term {d : Nat} {p : Int} (F : FX ΦR σ.sh σ.r) (hA : ArS kA vA k v kn pl σ) (h3 : pl ≤ 3) (hp : -1 ≤ p ∧ p < pl) (h : ∀ x : Int64, x.toInt = trm v p → K (.inl (some (.long x))) σ) : B_X23_term_0 Z (d + 1) σ (Int32.ofInt p) vA K := by
  refine S_X23_term_0 F ⟨fun z => ?_, fun z => ?_⟩
  · rw [Int32.le_iff_toInt_le, oI_i (by omega) (by omega)] at z
    have z : 0 ≤ p := z
    obtain ⟨q, rfl⟩ : ∃ q : Nat, p = (q : Int) := ⟨p.toNat, by omega⟩
    obtain ⟨-, g2, g3⟩ := hA.2 q (by omega)
    have e : Int32.ofInt (q : Int) = Int32.ofNat q := rfl
    rw [e]
    refine ⟨3, hA.1.2, ib_oN (by omega) (by decide), h _ ?_⟩
    rw [oN_t (by omega), g2, Int32.toInt_toInt64, oI_i (by omega) (by omega)]
    unfold trm
    rw [if_neg (by omega), Int.toNat_natCast]
  · rw [Int32.le_iff_toInt_le, oI_i (by omega) (by omega)] at z
    have z : ¬ 0 ≤ p := z
    refine h 0 ?_
    unfold trm
    rw [if_pos (by omega)]
    rfl
theorem trm_b (hA : ArS kA vA k v kn pl σ) {p : Int} (hp : -1 ≤ p ∧ p < pl) : -2147483648 ≤ trm v p ∧ trm v p ≤ 2147483647 := by
  unfold trm
  split
  · omega
  · exact (hA.2 p.toNat (by omega)).2.2
theorem rf_isTrue (x : Ast) (hW : tsW kn pl x) (F : FX ΦR σ.sh σ.r) (h3 : pl ≤ 3) (h24 : kn ≤ 24) (hA : ArS kA vA k v kn pl σ) (hB : ∀ a b, a < kn → b < kn → σ.i (1880 + 1 + a) b = if bl a b = true then 1 else 0) : ∀ (d : Nat) (r : Rf) (K : kS), tH x + 2 ≤ d → TsN σ A x r → K (.inl (some (.int (if tsB bl k v x = true then 1 else 0)))) σ → B_X23_isTrue_0 Z d σ r kA vA K := by
  refine ts_ind (kn := kn) (pl := pl) (P := fun x => ∀ (d : Nat) (r : Rf) (K : kS), tH x + 2 ≤ d → TsN σ A x r → K (.inl (some (.int (if tsB bl k v x = true then 1 else 0)))) σ → B_X23_isTrue_0 Z d σ r kA vA K) ?_ ?_ ?_ ?_ x hW
  · intro y w pb mo hv hw hp hm d r K hd T h
    rw [tH_2] at hd
    obtain ⟨d, rfl⟩ : ∃ e, d = e + 2 := ⟨d - 2, by omega⟩
    rw [TsN_aN] at T
    obtain ⟨c, rfl, -, hs, ho, hrest⟩ := T
    obtain ⟨l3, l9, pb', mo', el, l10, l11⟩ : leafC σ c y w (.nest pb (.nest mo .nil)) := by
      rcases hrest with ⟨-, q, -⟩ | ⟨q, -⟩ | ⟨q, -⟩
      · exact q
      · omega
      · omega
    cases el
    have ho : σ.i c 0 = 8 := ho
    rw [tsB_2] at h
    simp only [show ¬ (8 : Nat) = 20 by decide, show ¬ (8 : Nat) = 21 by decide, show ¬ (8 : Nat) = 22 by decide, show ¬ (8 : Nat) = 9 by decide, if_false] at h
    have h : K (.inl (some (.int (if cmS y (trm v w - trm v pb + mo) = true then 1 else 0)))) σ := h
    have bw := trm_b hA hw
    have bp := trm_b hA hp
    refine S_X23_isTrue_0 F ⟨c, rfl, hs, fun q => absurd (ho.symm.trans q) (by decide), fun q => absurd (ho.symm.trans q) (by decide), fun q => absurd (ho.symm.trans q) (by decide), fun q => absurd (ho.symm.trans q) (by decide), fun _ _ _ _ => ?_⟩
    rw [l9]
    refine rf_term F hA h3 hw (fun x1 e1 => ⟨hs, ?_⟩)
    rw [l10]
    refine rf_term F hA h3 hp (fun x2 e2 => ⟨hs, ?_⟩)
    have ev : ((x1 - x2) + σ.l c 11).toInt = trm v w - trm v pb + mo := by
      have e3 : (x1 - x2).toInt = trm v w - trm v pb := by
        rw [Int64.toInt_sub, e1, e2, Int.bmod_def]
        omega
      have e4 : (σ.l c 11).toInt = mo := by
        rw [l11, i64_oI (by omega) (by omega)]
      rw [i64_add (by rw [e3, e4]; omega) (by rw [e3, e4]; omega), e3, e4]
    generalize (x1 - x2) + σ.l c 11 = D at ev
    rw [← ev] at h
    rw [l3, cmp0, cmpP, cmp_0]
    have z0 : D = 0 ↔ D.toInt = 0 := ⟨fun q => by rw [q]; rfl, fun q => Int64.toInt_inj.mp q⟩
    rw [z0]
    rcases hv with rfl | rfl | rfl
    · refine ⟨fun _ => ⟨fun _ => ⟨fun q => ?_, fun q => ?_⟩, fun q => absurd q (by decide)⟩, fun q => absurd q (by decide)⟩
      · rw [show cmS 15 D.toInt = false from decide_eq_false (by omega)] at h
        exact h
      · rw [show cmS 15 D.toInt = true from decide_eq_true (by omega)] at h
        exact h
    · refine ⟨fun q => absurd (by decide) q, fun _ => ⟨fun q => ?_, fun q => ?_⟩⟩
      · rw [show cmS 16 D.toInt = false from decide_eq_false q] at h
        exact h
      · rw [show cmS 16 D.toInt = true from decide_eq_true q] at h
        exact h
    · refine ⟨fun _ => ⟨fun q => absurd (by decide) q, fun _ => ⟨fun q => ?_, fun q => ?_⟩⟩, fun q => absurd q (by decide)⟩
      · rw [show cmS 17 D.toInt = false from decide_eq_false (by omega)] at h
        exact h
      · rw [show cmS 17 D.toInt = true from decide_eq_true (by omega)] at h
        exact h
  · intro y w hv hw d r K hd T h
    rw [tH_2] at hd
    obtain ⟨d, rfl⟩ : ∃ e, d = e + 1 := ⟨d - 1, by omega⟩
    rw [TsN_aN] at T
    obtain ⟨c, rfl, -, hs, ho, hrest⟩ := T
    obtain ⟨f1, f2⟩ : σ.i c 2 = Int32.ofInt w ∧ σ.i c 1 = Int32.ofInt y := by
      rcases hrest with ⟨q, -⟩ | ⟨-, q1, q2, -⟩ | ⟨q, -⟩
      · omega
      · exact ⟨q1, q2⟩
      · omega
    have ho : σ.i c 0 = 9 := ho
    rw [tsB_2] at h
    simp only [show ¬ (9 : Nat) = 20 by decide, show ¬ (9 : Nat) = 21 by decide, show ¬ (9 : Nat) = 22 by decide, if_false, if_true] at h
    obtain ⟨w, rfl⟩ : ∃ z : Nat, w = (z : Int) := ⟨w.toNat, by omega⟩
    obtain ⟨y, rfl⟩ : ∃ z : Nat, y = (z : Int) := ⟨y.toNat, by omega⟩
    have f1 : σ.i c 2 = Int32.ofNat w := f1
    have f2 : σ.i c 1 = Int32.ofNat y := f2
    rw [Int.toNat_natCast, Int.toNat_natCast] at h
    obtain ⟨⟨k1, k2⟩, -⟩ := hA.2 w (by omega)
    have ev : σ.i (1880 + 1 + ((σ.i kA ((σ.i c 2).toNatClampNeg)).toNatClampNeg)) ((σ.i c 1).toNatClampNeg) = if bl (k w) y = true then 1 else 0 := by
      rw [f1, f2, oN_t (by omega), oN_t (by omega), k1, oN_t (by omega)]
      exact hB _ _ k2 (by omega)
    refine S_X23_isTrue_0 F ⟨c, rfl, hs, fun _ => ⟨3, hA.1.1, by rw [f1]; exact ib_oN (by omega) (by decide), ?_, by rw [f2]; exact ib_oN (by omega) (by decide), ?_, ?_⟩, fun q => absurd (ho.symm.trans q) (by decide), fun q => absurd (ho.symm.trans q) (by decide), fun q => absurd (ho.symm.trans q) (by decide), fun q => absurd ho q⟩
    · rw [f1, oN_t (by omega), k1]
      exact ib_oN (by omega) (by decide)
    · rw [ev]
      split <;> rfl
    · rw [ev]
      exact h
  · intro op y w a b' hop wa wb iha ihb d r K hd T h
    rw [tH_2] at hd
    obtain ⟨d, rfl⟩ : ∃ e, d = e + 1 := ⟨d - 1, by omega⟩
    rw [TsN_aN] at T
    obtain ⟨c, rfl, -, hs, ho, hrest⟩ := T
    obtain ⟨Ta, Tb⟩ : TsN σ A a (σ.r c 5) ∧ TsN σ A b' (σ.r c 6) := by
      rcases hrest with ⟨q, -⟩ | ⟨q, -⟩ | ⟨-, q1, q2⟩
      · omega
      · omega
      · exact ⟨q1, q2⟩
    rcases hop with rfl | rfl
    · have ho : σ.i c 0 = 20 := ho
      have h : K (.inl (some (.int (if (tsB bl k v a || tsB bl k v b') = true then 1 else 0)))) σ := h
      refine S_X23_isTrue_0 F ⟨c, rfl, hs, fun q => absurd (ho.symm.trans q) (by decide), fun _ => ?_, fun q => absurd (ho.symm.trans q) (by decide), fun q => absurd (ho.symm.trans q) (by decide), fun _ q => absurd ho q⟩
      refine iha d _ _ (by omega) Ta ?_
      cases qa : tsB bl k v a <;> rw [qa] at h
      · refine ⟨fun q => absurd rfl q, fun _ => ⟨hs, ihb d _ _ (by omega) Tb ?_⟩⟩
        cases qb : tsB bl k v b' <;> rw [qb] at h
        · exact ⟨fun _ => h, fun q => absurd rfl q⟩
        · exact ⟨fun q => absurd q (by decide), fun _ => h⟩
      · exact ⟨fun _ => h, fun q => absurd q (by decide)⟩
    · have ho : σ.i c 0 = 21 := ho
      have h : K (.inl (some (.int (if (tsB bl k v a && tsB bl k v b') = true then 1 else 0)))) σ := h
      refine S_X23_isTrue_0 F ⟨c, rfl, hs, fun q => absurd (ho.symm.trans q) (by decide), fun q => absurd (ho.symm.trans q) (by decide), fun _ => ?_, fun q => absurd (ho.symm.trans q) (by decide), fun _ _ q => absurd ho q⟩
      refine iha d _ _ (by omega) Ta ?_
      cases qa : tsB bl k v a <;> rw [qa] at h
      · exact ⟨fun _ => h, fun q => absurd rfl q⟩
      · refine ⟨fun q => absurd q (by decide), fun _ => ⟨hs, ihb d _ _ (by omega) Tb ?_⟩⟩
        cases qb : tsB bl k v b' <;> rw [qb] at h
        · exact ⟨fun _ => h, fun q => absurd rfl q⟩
        · exact ⟨fun q => absurd q (by decide), fun _ => h⟩
  · intro y w a wa iha d r K hd T h
    rw [tH_2] at hd
    obtain ⟨d, rfl⟩ : ∃ e, d = e + 1 := ⟨d - 1, by omega⟩
    rw [TsN_aN] at T
    obtain ⟨c, rfl, -, hs, ho, hrest⟩ := T
    obtain ⟨Ta, -⟩ : TsN σ A a (σ.r c 5) ∧ True := by
      rcases hrest with ⟨q, -⟩ | ⟨q, -⟩ | ⟨-, q1, q2⟩
      · omega
      · omega
      · exact ⟨q1, trivial⟩
    have h : K (.inl (some (.int (if (!tsB bl k v a) = true then 1 else 0)))) σ := h
    have ho : σ.i c 0 = 22 := ho
    refine S_X23_isTrue_0 F ⟨c, rfl, hs, fun q => absurd (ho.symm.trans q) (by decide), fun q => absurd (ho.symm.trans q) (by decide), fun q => absurd (ho.symm.trans q) (by decide), fun _ => ?_, fun _ _ _ q => absurd ho q⟩
    refine iha d _ _ (by omega) Ta ?_
    cases qa : tsB bl k v a <;> rw [qa] at h
    · exact ⟨fun q => absurd rfl q, fun _ => h⟩
    · exact ⟨fun _ => h, fun q => absurd q (by decide)⟩
def lyM (ms : List (Mtd × Bool)) (m : Nat) : Int := ((ms[m - 1]?).map (·.1.2.2.1)).getD (-1)
def rlM (ms : List (Mtd × Bool)) (m : Nat) : Nat := ((ms[m - 1]?).map (·.1.2.1)).getD 0
/-- whether a method that fits applies -/
def apB (W : Wld) (on : List Nat) (k : Nat → Nat) (v : Nat → Int) (m : Nat) : Bool := (decide (lyM W.2.2.2 m < 0) || decide ((lyM W.2.2.2 m).toNat ∈ on)) && tkM (plW W.2.1 (mcW W.2.2.2 m)) (spM W.2.2.2 m) (blW W.1) k (tsM W.2.2.2 m) v
theorem NwS.mt2 (hW : WfW W) (H : NwS W lst b wy σ) (h1 : 1 ≤ m) (h2 : m ≤ W.2.2.2.length) : (σ.i (2497 + 4 * m) 2 = Int32.ofInt (lyM W.2.2.2 m) ∧ (-1 ≤ lyM W.2.2.2 m ∧ lyM W.2.2.2 m < W.2.2.1.length)) ∧ (σ.i (2497 + 4 * m) 1 = Int32.ofNat (rlM W.2.2.2 m) ∧ rlM W.2.2.2 m ≤ 3) := by
  have e : W.2.2.2[m - 1]? = some W.2.2.2[m - 1] := List.getElem?_eq_getElem (by omega)
  obtain ⟨kk, a1, a2, a3, a4, -⟩ := hW.2.2 _ (List.mem_of_getElem? e)
  have Mt := H.2.2.2.1 (m - 1) _ e
  obtain ⟨-, -, m1, m2, -⟩ := Mt
  rw [show 2501 + 4 * (m - 1) = 2497 + 4 * m by omega] at m1 m2
  unfold lyM rlM
  rw [e]
  exact ⟨⟨m2, a4⟩, m1, a3⟩
/-- applies() -/
theorem rf_applies {d : Nat} {on : List Nat} (hW : WfW W) (hd : 30 ≤ d) (H : NwS W lst b wy σ) (hm : 1 ≤ m ∧ m ≤ W.2.2.2.length) (hA : ArS kA vA k v W.1.length (plW W.2.1 (mcW W.2.2.2 m)) σ) (hl : σ.l 0 68 = Int64.ofNat (enL on)) (hon : ∀ x ∈ on, x < 8) (h8 : on.length ≤ 8) (h : K (.inl (some (.int (if apB W on k v m = true then 1 else 0)))) σ) : B_X23_applies_0 Z d σ (2497 + 4 * m) kA vA K := by
  obtain ⟨d, rfl⟩ : ∃ e, d = e + 2 := ⟨d - 2, by omega⟩
  obtain ⟨⟨m1, m2, m2'⟩, ⟨m3, m3'⟩, m4, ⟨t1, ⟨t2, t3⟩, t4, t5⟩, ⟨m6, m6', -⟩, m7⟩ := H.mt hW hm.1 hm.2
  obtain ⟨⟨y1, y2⟩, -⟩ := H.mt2 hW hm.1 hm.2
  have hl8 := H.2.1.2.2.2.1
  have hk24 := H.2.1.1.2.1
  unfold apB tkM at h
  generalize hpl : plW W.2.1 (mcW W.2.2.2 m) = pl at *
  -- behind the layer
  have eqs : (decide (lyM W.2.2.2 m < 0) || decide ((lyM W.2.2.2 m).toNat ∈ on)) = true → ∀ r i, pl - i = r → i ≤ pl → (∀ j, j < i → hsI (spM W.2.2.2 m) j = true → v j = eqI (spM W.2.2.2 m) j) → B_X23_applies_26 Z (d + 2) σ (2497 + 4 * m) kA vA (Int32.ofNat i) K := by
    intro hy
    rw [hy, Bool.true_and] at h
    intro r
    induction r with
    | zero =>
      intro i hr hi hall
      have e : i = pl := by omega
      subst e
      have hall2 : ((List.range i).all fun i => !hsI (spM W.2.2.2 m) i || decide (v i = eqI (spM W.2.2.2 m) i)) = true := by
        rw [List.all_eq_true]
        intro j hj
        have := hall j (List.mem_range.mp hj)
        cases q : hsI (spM W.2.2.2 m) j
        · rfl
        · rw [decide_eq_true (this q)]
          rfl
      rw [hall2, Bool.true_and] at h
      refine S_X23_applies_26 H.1 t1 ⟨t2, fun _ => ⟨fun z => ?_, fun z => ?_⟩, fun z => absurd (by rw [t3]; exact Int32.le_refl _) z⟩
      · have hn : tsM W.2.2.2 m = .nil := by
          rcases m6 with q | q
          · exact q
          · exact absurd ((ts_nil t5).mp z) (ts_nn q)
        rw [hn] at h
        exact h
      · have hw : tsW W.1.length i (tsM W.2.2.2 m) := by
          rcases m6 with q | q
          · rw [q] at t5
            exact absurd t5 z
          · exact q
        refine rf_isTrue (bl := blW W.1) (tsM W.2.2.2 m) hw H.1 m2' hk24.2 hA H.2.2.2.2.1 (d + 1) _ _ (by omega) t5 ?_
        cases q : tsB (blW W.1) k v (tsM W.2.2.2 m) <;> rw [q] at h
        · exact ⟨fun _ => h, fun z => absurd rfl z⟩
        · exact ⟨fun z => absurd z (by decide), fun _ => h⟩
    | succ r ih =>
      intro i hr hi hall
      have hlt : i < pl := by omega
      obtain ⟨-, g2, g3⟩ := hA.2 i hlt
      obtain ⟨e1, e2⟩ := m7 i hlt
      have nx := fun hh => ih (i + 1) (by omega) (by omega) hh
      refine S_X23_applies_26 H.1 t1 ⟨t2, fun z => ?_, fun _ => ⟨ib_oN (by omega) (by decide), ?_, ?_⟩⟩
      · exfalso
        rw [t3, oN_le (by omega) (by omega)] at z
        omega
      · rw [oN_t (by omega), t4 i hlt, oN_1]
        intro z
        refine nx (fun j hj hs => ?_)
        by_cases q : j = i
        · subst q
          rw [hs] at z
          exact absurd z (by decide)
        · exact hall j (by omega) hs
      · rw [oN_t (by omega), t4 i hlt, oN_1]
        intro z
        have hs : hsI (spM W.2.2.2 m) i = true := by
          cases q : hsI (spM W.2.2.2 m) i with
          | true => rfl
          | false =>
            rw [q] at z
            exact absurd rfl z
        refine ⟨ib_oN (by omega) (by decide), 3, hA.1.2, ib_oN (by omega) (by decide), ?_⟩
        rw [e1, g2]
        refine ⟨fun q => nx (fun j hj hs2 => ?_), fun q => ?_⟩
        · by_cases q2 : j = i
          · subst q2
            have := congrArg Int32.toInt q
            rw [oI_i (by omega) (by omega), oI_i (by omega) (by omega)] at this
            exact this.symm
          · exact hall j (by omega) hs2
        · have hf : ((List.range pl).all fun i => !hsI (spM W.2.2.2 m) i || decide (v i = eqI (spM W.2.2.2 m) i)) = false := by
            rw [List.all_eq_false]
            refine ⟨i, List.mem_range.mpr hlt, ?_⟩
            rw [hs]
            intro z2
            have : v i = eqI (spM W.2.2.2 m) i := by simpa using z2
            exact q (by rw [this])
          rw [hf, Bool.false_and] at h
          exact h
  have t1' := t1
  refine S_X23_applies_0 H.1 ⟨t1, fun z => ?_, fun z => ?_⟩
  · rw [y1, Int32.lt_iff_toInt_lt, oI_i (by omega) (by omega)] at z
    have z : lyM W.2.2.2 m < 0 := z
    exact eqs (by rw [decide_eq_true z]; rfl) pl 0 (by omega) (Nat.zero_le _) (fun j hj => by omega)
  · rw [y1, Int32.lt_iff_toInt_lt, oI_i (by omega) (by omega)] at z
    have z : ¬ lyM W.2.2.2 m < 0 := z
    rw [y1, hl, oI_nn (by omega)]
    refine S_X23_isOn_0 H.1 (rf_isOn (d := d) H.1 (by omega) on hon h8 ?_)
    by_cases q : (lyM W.2.2.2 m).toNat ∈ on
    · rw [if_pos q]
      exact ⟨fun _ => eqs (by rw [decide_eq_true q, Bool.or_true]) pl 0 (by omega) (Nat.zero_le _) (fun j hj => by omega), fun z => absurd z (by decide)⟩
    · rw [if_neg q]
      refine ⟨fun z => absurd rfl z, fun _ => ?_⟩
      rw [decide_eq_false z, decide_eq_false q, Bool.false_or, Bool.false_and] at h
      exact h
end APPL

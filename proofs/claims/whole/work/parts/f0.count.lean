/-! COUNTING BITS -/
theorem and_sp {k a b c d : Nat} (ha : a < 2 ^ k) (hc : c < 2 ^ k) : (2 ^ k * b + a) &&& (2 ^ k * d + c) = 2 ^ k * (b &&& d) + (a &&& c) := by
  apply Nat.eq_of_testBit_eq
  intro i
  rw [Nat.testBit_and, Nat.testBit_two_pow_mul_add _ ha, Nat.testBit_two_pow_mul_add _ hc, Nat.testBit_two_pow_mul_add _ (Nat.and_lt_two_pow a hc)]
  split
  · rw [Nat.testBit_and]
  · rw [Nat.testBit_and]
theorem and_8 {a b c d : Nat} (ha : a < 256) (hc : c < 256) : (256 * b + a) &&& (256 * d + c) = 256 * (b &&& d) + (a &&& c) := and_sp (k := 8) ha hc
/-- byte by byte -/
def mpB (g : Nat → Nat) : Nat → Nat → Nat
  | 0, _ => 0
  | n + 1, x => 256 * mpB g n (x / 256) + g (x % 256)
def rpB (c : Nat) : Nat → Nat
  | 0 => 0
  | n + 1 => 256 * rpB c n + c
theorem mpB_id : ∀ n x, x < 256 ^ n → mpB (fun a => a) n x = x
  | 0, x, h => by
    have : x = 0 := by omega
    rw [this]
    rfl
  | n + 1, x, h => by
    rw [mpB, mpB_id n (x / 256) (by rw [Nat.pow_succ] at h; omega)]
    omega
theorem mpB_add (f g : Nat → Nat) : ∀ n x, mpB f n x + mpB g n x = mpB (fun a => f a + g a) n x
  | 0, x => rfl
  | n + 1, x => by
    rw [mpB, mpB, mpB, ← mpB_add f g n (x / 256)]
    omega
theorem mpB_cg {f g : Nat → Nat} (h : ∀ a, a < 256 → f a = g a) : ∀ n x, mpB f n x = mpB g n x
  | 0, x => rfl
  | n + 1, x => by
    rw [mpB, mpB, mpB_cg h n, h _ (by omega)]
theorem mpB_and {g : Nat → Nat} {c : Nat} (hg : ∀ a, a < 256 → g a < 256) (hc : c < 256) : ∀ n x, mpB g n x &&& rpB c n = mpB (fun a => g a &&& c) n x
  | 0, x => by
    rw [mpB, rpB, mpB]
    decide
  | n + 1, x => by
    rw [mpB, rpB, mpB, and_8 (hg _ (by omega)) hc, mpB_and hg hc n]
theorem mpB_2 {g : Nat → Nat} (hg : ∀ a, a < 256 → g a < 256) : ∀ n x, (mpB g n x / 2) &&& rpB 85 n = mpB (fun a => (g a / 2) &&& 85) n x
  | 0, x => by
    rw [mpB, rpB, mpB]
    decide
  | n + 1, x => by
    have h1 := hg (x % 256) (by omega)
    have e : (256 * mpB g n (x / 256) + g (x % 256)) / 2 = 256 * (mpB g n (x / 256) / 2) + (g (x % 256) / 2 + 128 * (mpB g n (x / 256) % 2)) := by omega
    have key : ∀ v, v < 256 → ∀ u, u < 2 → (v / 2 + 128 * u) &&& 85 = (v / 2) &&& 85 := by decide +kernel
    rw [mpB, rpB, mpB, e, and_8 (by omega) (by decide), mpB_2 hg n, key _ h1 _ (by omega)]
theorem mpB_4 {g : Nat → Nat} (hg : ∀ a, a < 256 → g a < 256) : ∀ n x, (mpB g n x / 4) &&& rpB 51 n = mpB (fun a => (g a / 4) &&& 51) n x
  | 0, x => by
    rw [mpB, rpB, mpB]
    decide
  | n + 1, x => by
    have h1 := hg (x % 256) (by omega)
    have e : (256 * mpB g n (x / 256) + g (x % 256)) / 4 = 256 * (mpB g n (x / 256) / 4) + (g (x % 256) / 4 + 64 * (mpB g n (x / 256) % 4)) := by omega
    have key : ∀ v, v < 256 → ∀ u, u < 4 → (v / 4 + 64 * u) &&& 51 = (v / 4) &&& 51 := by decide +kernel
    rw [mpB, rpB, mpB, e, and_8 (by omega) (by decide), mpB_4 hg n, key _ h1 _ (by omega)]
theorem mpB_m {g : Nat → Nat} (hg : ∀ a, a < 256 → g a % 16 ≤ 4) : ∀ n x, mpB g n x % 16 ≤ 4
  | 0, x => by
    rw [mpB]
    omega
  | n + 1, x => by
    have := hg (x % 256) (by omega)
    rw [mpB]
    omega
theorem mpB_16 {g : Nat → Nat} (hg : ∀ a, a < 256 → g a ≤ 68 ∧ g a % 16 ≤ 4) : ∀ n x, (mpB g n x + mpB g n x / 16) &&& rpB 15 n = mpB (fun a => (g a + g a / 16) &&& 15) n x
  | 0, x => by
    rw [mpB, rpB, mpB]
    decide
  | n + 1, x => by
    have h1 := hg (x % 256) (by omega)
    have h2 := mpB_m (fun a ha => (hg a ha).2) n (x / 256)
    have e : (256 * mpB g n (x / 256) + g (x % 256)) + (256 * mpB g n (x / 256) + g (x % 256)) / 16 = 256 * (mpB g n (x / 256) + mpB g n (x / 256) / 16) + (g (x % 256) + g (x % 256) / 16 + 16 * (mpB g n (x / 256) % 16)) := by omega
    have key : ∀ v, v < 256 → ∀ u, u < 16 → (v + 16 * u) &&& 15 = v &&& 15 := by decide +kernel
    rw [mpB, rpB, mpB, e, and_8 (by omega) (by decide), mpB_16 hg n, key _ (by omega) _ (by omega)]
def pB1 (a : Nat) : Nat := a - ((a / 2) &&& 85)
def pB2 (a : Nat) : Nat := (pB1 a &&& 51) + ((pB1 a / 4) &&& 51)
def pB3 (a : Nat) : Nat := (pB2 a + pB2 a / 16) &&& 15
theorem pB_b : ∀ a, a < 256 → pB1 a < 256 ∧ ((a / 2) &&& 85) ≤ a ∧ pB2 a ≤ 68 ∧ pB2 a % 16 ≤ 4 ∧ pB3 a ≤ 8 := by decide +kernel
theorem sw_1 {n x : Nat} (h : x < 256 ^ n) : ((x / 2) &&& rpB 85 n) ≤ x ∧ x - ((x / 2) &&& rpB 85 n) = mpB pB1 n x := by
  have e1 := mpB_2 (g := fun a => a) (fun a ha => ha) n x
  rw [mpB_id n x h] at e1
  have e2 := mpB_add (fun a => (a / 2) &&& 85) pB1 n x
  rw [mpB_cg (f := fun a => ((a / 2) &&& 85) + pB1 a) (g := fun a => a) (fun a ha => by have := (pB_b a ha).2.1; show (a / 2 &&& 85) + pB1 a = a; unfold pB1; omega) n x, mpB_id n x h] at e2
  rw [e1]
  omega
theorem sw_2 (n x : Nat) : (mpB pB1 n x &&& rpB 51 n) + ((mpB pB1 n x / 4) &&& rpB 51 n) = mpB pB2 n x := by
  rw [mpB_and (fun a ha => (pB_b a ha).1) (by decide), mpB_4 (fun a ha => (pB_b a ha).1), mpB_add]
  rfl
theorem sw_3 (n x : Nat) : (mpB pB2 n x + mpB pB2 n x / 16) &&& rpB 15 n = mpB pB3 n x := mpB_16 (fun a ha => ⟨(pB_b a ha).2.2.1, (pB_b a ha).2.2.2.1⟩) n x
/-- how many of the first bits are there -/
def pcN (n x : Nat) : Nat := ((List.range n).filter fun b => x.testBit b).length
theorem pc_8 : ∀ a, a < 256 → pcN 8 a = pB3 a := by decide +kernel
theorem pc_sp (n x : Nat) : pcN (8 + n) x = pB3 (x % 256) + pcN n (x / 256) := by
  rw [← pc_8 _ (by omega)]
  unfold pcN
  rw [List.range_add, List.filter_append, List.length_append, List.filter_map, List.length_map]
  congr 2
  · refine List.filter_congr fun b hb => ?_
    rw [show x % 256 = x % 2 ^ 8 from rfl, Nat.testBit_mod_two_pow]
    simp [List.mem_range.mp hb]
  · refine List.filter_congr fun b hb => ?_
    show x.testBit (8 + b) = (x / 2 ^ 8).testBit b
    rw [Nat.testBit_div_two_pow, Nat.add_comm]
theorem pc_32 (x : Nat) : pcN 32 x = pB3 (x % 256) + (pB3 (x / 256 % 256) + (pB3 (x / 256 / 256 % 256) + pB3 (x / 256 / 256 / 256 % 256))) := by
  rw [show 32 = 8 + (8 + (8 + (8 + 0))) from rfl, pc_sp, pc_sp, pc_sp, pc_sp]
  rfl
theorem pc_64 (x : Nat) : pcN 64 x = pB3 (x % 256) + (pB3 (x / 256 % 256) + (pB3 (x / 256 / 256 % 256) + (pB3 (x / 256 / 256 / 256 % 256) + (pB3 (x / 256 / 256 / 256 / 256 % 256) + (pB3 (x / 256 / 256 / 256 / 256 / 256 % 256) + (pB3 (x / 256 / 256 / 256 / 256 / 256 / 256 % 256) + pB3 (x / 256 / 256 / 256 / 256 / 256 / 256 / 256 % 256))))))) := by
  rw [show 64 = 8 + (8 + (8 + (8 + (8 + (8 + (8 + (8 + 0))))))) from rfl, pc_sp, pc_sp, pc_sp, pc_sp, pc_sp, pc_sp, pc_sp, pc_sp]
  rfl
theorem sw_4 (x : Nat) : mpB pB3 4 x < 4294967296 ∧ (mpB pB3 4 x + mpB pB3 4 x / 256) < 4294967296 ∧ ((mpB pB3 4 x + mpB pB3 4 x / 256) + (mpB pB3 4 x + mpB pB3 4 x / 256) / 65536) < 4294967296 ∧ ((mpB pB3 4 x + mpB pB3 4 x / 256) + (mpB pB3 4 x + mpB pB3 4 x / 256) / 65536) % 64 = pcN 32 x := by
  have b := fun a ha => (pB_b a ha).2.2.2.2
  have e0 : mpB pB3 4 x = pB3 (x % 256) + 256 * pB3 (x / 256 % 256) + 65536 * pB3 (x / 256 / 256 % 256) + 16777216 * pB3 (x / 256 / 256 / 256 % 256) := by
    rw [mpB, mpB, mpB, mpB, mpB]
    omega
  rw [pc_32, e0]
  clear e0
  have h0 := b (x % 256) (by omega)
  have h1 := b (x / 256 % 256) (by omega)
  have h2 := b (x / 256 / 256 % 256) (by omega)
  have h3 := b (x / 256 / 256 / 256 % 256) (by omega)
  generalize pB3 (x % 256) = g0 at *
  generalize pB3 (x / 256 % 256) = g1 at *
  generalize pB3 (x / 256 / 256 % 256) = g2 at *
  generalize pB3 (x / 256 / 256 / 256 % 256) = g3 at *
  clear b
  refine ⟨by omega, ?_⟩
  have q0 : (g0 + 256 * g1 + 65536 * g2 + 16777216 * g3) / 256 = g1 + 256 * g2 + 65536 * g3 := by omega
  have r0 : (g0 + 256 * g1 + 65536 * g2 + 16777216 * g3) + (g1 + 256 * g2 + 65536 * g3) = (g0 + g1) + 256 * (g1 + g2) + 65536 * (g2 + g3) + 16777216 * g3 := by
    clear q0
    omega
  rw [q0, r0]
  clear q0 r0
  refine ⟨by omega, ?_⟩
  have q1 : ((g0 + g1) + 256 * (g1 + g2) + 65536 * (g2 + g3) + 16777216 * g3) / 65536 = (g2 + g3) + 256 * g3 := by omega
  have r1 : ((g0 + g1) + 256 * (g1 + g2) + 65536 * (g2 + g3) + 16777216 * g3) + ((g2 + g3) + 256 * g3) = (g0 + g1 + g2 + g3) + 256 * (g1 + g2 + g3) + 65536 * (g2 + g3) + 16777216 * g3 := by
    clear q1
    omega
  rw [q1, r1]
  clear q1 r1
  refine ⟨by omega, ?_⟩
  omega
theorem sw_8 (x : Nat) : mpB pB3 8 x < 18446744073709551616 ∧ (mpB pB3 8 x + mpB pB3 8 x / 256) < 18446744073709551616 ∧ ((mpB pB3 8 x + mpB pB3 8 x / 256) + (mpB pB3 8 x + mpB pB3 8 x / 256) / 65536) < 18446744073709551616 ∧ (((mpB pB3 8 x + mpB pB3 8 x / 256) + (mpB pB3 8 x + mpB pB3 8 x / 256) / 65536) + ((mpB pB3 8 x + mpB pB3 8 x / 256) + (mpB pB3 8 x + mpB pB3 8 x / 256) / 65536) / 4294967296) < 18446744073709551616 ∧ (((mpB pB3 8 x + mpB pB3 8 x / 256) + (mpB pB3 8 x + mpB pB3 8 x / 256) / 65536) + ((mpB pB3 8 x + mpB pB3 8 x / 256) + (mpB pB3 8 x + mpB pB3 8 x / 256) / 65536) / 4294967296) % 128 = pcN 64 x := by
  have b := fun a ha => (pB_b a ha).2.2.2.2
  have e0 : mpB pB3 8 x = pB3 (x % 256) + 256 * pB3 (x / 256 % 256) + 65536 * pB3 (x / 256 / 256 % 256) + 16777216 * pB3 (x / 256 / 256 / 256 % 256) + 4294967296 * pB3 (x / 256 / 256 / 256 / 256 % 256) + 1099511627776 * pB3 (x / 256 / 256 / 256 / 256 / 256 % 256) + 281474976710656 * pB3 (x / 256 / 256 / 256 / 256 / 256 / 256 % 256) + 72057594037927936 * pB3 (x / 256 / 256 / 256 / 256 / 256 / 256 / 256 % 256) := by
    rw [mpB, mpB, mpB, mpB, mpB, mpB, mpB, mpB, mpB]
    omega
  rw [pc_64, e0]
  clear e0
  have h0 := b (x % 256) (by omega)
  have h1 := b (x / 256 % 256) (by omega)
  have h2 := b (x / 256 / 256 % 256) (by omega)
  have h3 := b (x / 256 / 256 / 256 % 256) (by omega)
  have h4 := b (x / 256 / 256 / 256 / 256 % 256) (by omega)
  have h5 := b (x / 256 / 256 / 256 / 256 / 256 % 256) (by omega)
  have h6 := b (x / 256 / 256 / 256 / 256 / 256 / 256 % 256) (by omega)
  have h7 := b (x / 256 / 256 / 256 / 256 / 256 / 256 / 256 % 256) (by omega)
  generalize pB3 (x % 256) = g0 at *
  generalize pB3 (x / 256 % 256) = g1 at *
  generalize pB3 (x / 256 / 256 % 256) = g2 at *
  generalize pB3 (x / 256 / 256 / 256 % 256) = g3 at *
  generalize pB3 (x / 256 / 256 / 256 / 256 % 256) = g4 at *
  generalize pB3 (x / 256 / 256 / 256 / 256 / 256 % 256) = g5 at *
  generalize pB3 (x / 256 / 256 / 256 / 256 / 256 / 256 % 256) = g6 at *
  generalize pB3 (x / 256 / 256 / 256 / 256 / 256 / 256 / 256 % 256) = g7 at *
  clear b
  refine ⟨by omega, ?_⟩
  have q0 : (g0 + 256 * g1 + 65536 * g2 + 16777216 * g3 + 4294967296 * g4 + 1099511627776 * g5 + 281474976710656 * g6 + 72057594037927936 * g7) / 256 = g1 + 256 * g2 + 65536 * g3 + 16777216 * g4 + 4294967296 * g5 + 1099511627776 * g6 + 281474976710656 * g7 := by
    rw [show g0 + 256 * g1 + 65536 * g2 + 16777216 * g3 + 4294967296 * g4 + 1099511627776 * g5 + 281474976710656 * g6 + 72057594037927936 * g7 = (g0) + 256 * (g1 + 256 * g2 + 65536 * g3 + 16777216 * g4 + 4294967296 * g5 + 1099511627776 * g6 + 281474976710656 * g7) by omega, Nat.add_mul_div_left _ _ (by decide), Nat.div_eq_of_lt (show g0 < 256 by omega), Nat.zero_add]
  have r0 : (g0 + 256 * g1 + 65536 * g2 + 16777216 * g3 + 4294967296 * g4 + 1099511627776 * g5 + 281474976710656 * g6 + 72057594037927936 * g7) + (g1 + 256 * g2 + 65536 * g3 + 16777216 * g4 + 4294967296 * g5 + 1099511627776 * g6 + 281474976710656 * g7) = (g0 + g1) + 256 * (g1 + g2) + 65536 * (g2 + g3) + 16777216 * (g3 + g4) + 4294967296 * (g4 + g5) + 1099511627776 * (g5 + g6) + 281474976710656 * (g6 + g7) + 72057594037927936 * g7 := by
    clear q0
    omega
  rw [q0, r0]
  clear q0 r0
  refine ⟨by omega, ?_⟩
  have q1 : ((g0 + g1) + 256 * (g1 + g2) + 65536 * (g2 + g3) + 16777216 * (g3 + g4) + 4294967296 * (g4 + g5) + 1099511627776 * (g5 + g6) + 281474976710656 * (g6 + g7) + 72057594037927936 * g7) / 65536 = (g2 + g3) + 256 * (g3 + g4) + 65536 * (g4 + g5) + 16777216 * (g5 + g6) + 4294967296 * (g6 + g7) + 1099511627776 * g7 := by
    rw [show (g0 + g1) + 256 * (g1 + g2) + 65536 * (g2 + g3) + 16777216 * (g3 + g4) + 4294967296 * (g4 + g5) + 1099511627776 * (g5 + g6) + 281474976710656 * (g6 + g7) + 72057594037927936 * g7 = ((g0 + g1) + 256 * (g1 + g2)) + 65536 * ((g2 + g3) + 256 * (g3 + g4) + 65536 * (g4 + g5) + 16777216 * (g5 + g6) + 4294967296 * (g6 + g7) + 1099511627776 * g7) by omega, Nat.add_mul_div_left _ _ (by decide), Nat.div_eq_of_lt (show (g0 + g1) + 256 * (g1 + g2) < 65536 by omega), Nat.zero_add]
  have r1 : ((g0 + g1) + 256 * (g1 + g2) + 65536 * (g2 + g3) + 16777216 * (g3 + g4) + 4294967296 * (g4 + g5) + 1099511627776 * (g5 + g6) + 281474976710656 * (g6 + g7) + 72057594037927936 * g7) + ((g2 + g3) + 256 * (g3 + g4) + 65536 * (g4 + g5) + 16777216 * (g5 + g6) + 4294967296 * (g6 + g7) + 1099511627776 * g7) = (g0 + g1 + g2 + g3) + 256 * (g1 + g2 + g3 + g4) + 65536 * (g2 + g3 + g4 + g5) + 16777216 * (g3 + g4 + g5 + g6) + 4294967296 * (g4 + g5 + g6 + g7) + 1099511627776 * (g5 + g6 + g7) + 281474976710656 * (g6 + g7) + 72057594037927936 * g7 := by
    clear q1
    omega
  rw [q1, r1]
  clear q1 r1
  refine ⟨by omega, ?_⟩
  have q2 : ((g0 + g1 + g2 + g3) + 256 * (g1 + g2 + g3 + g4) + 65536 * (g2 + g3 + g4 + g5) + 16777216 * (g3 + g4 + g5 + g6) + 4294967296 * (g4 + g5 + g6 + g7) + 1099511627776 * (g5 + g6 + g7) + 281474976710656 * (g6 + g7) + 72057594037927936 * g7) / 4294967296 = (g4 + g5 + g6 + g7) + 256 * (g5 + g6 + g7) + 65536 * (g6 + g7) + 16777216 * g7 := by
    rw [show (g0 + g1 + g2 + g3) + 256 * (g1 + g2 + g3 + g4) + 65536 * (g2 + g3 + g4 + g5) + 16777216 * (g3 + g4 + g5 + g6) + 4294967296 * (g4 + g5 + g6 + g7) + 1099511627776 * (g5 + g6 + g7) + 281474976710656 * (g6 + g7) + 72057594037927936 * g7 = ((g0 + g1 + g2 + g3) + 256 * (g1 + g2 + g3 + g4) + 65536 * (g2 + g3 + g4 + g5) + 16777216 * (g3 + g4 + g5 + g6)) + 4294967296 * ((g4 + g5 + g6 + g7) + 256 * (g5 + g6 + g7) + 65536 * (g6 + g7) + 16777216 * g7) by omega, Nat.add_mul_div_left _ _ (by decide), Nat.div_eq_of_lt (show (g0 + g1 + g2 + g3) + 256 * (g1 + g2 + g3 + g4) + 65536 * (g2 + g3 + g4 + g5) + 16777216 * (g3 + g4 + g5 + g6) < 4294967296 by omega), Nat.zero_add]
  have r2 : ((g0 + g1 + g2 + g3) + 256 * (g1 + g2 + g3 + g4) + 65536 * (g2 + g3 + g4 + g5) + 16777216 * (g3 + g4 + g5 + g6) + 4294967296 * (g4 + g5 + g6 + g7) + 1099511627776 * (g5 + g6 + g7) + 281474976710656 * (g6 + g7) + 72057594037927936 * g7) + ((g4 + g5 + g6 + g7) + 256 * (g5 + g6 + g7) + 65536 * (g6 + g7) + 16777216 * g7) = (g0 + g1 + g2 + g3 + g4 + g5 + g6 + g7) + 256 * (g1 + g2 + g3 + g4 + g5 + g6 + g7) + 65536 * (g2 + g3 + g4 + g5 + g6 + g7) + 16777216 * (g3 + g4 + g5 + g6 + g7) + 4294967296 * (g4 + g5 + g6 + g7) + 1099511627776 * (g5 + g6 + g7) + 281474976710656 * (g6 + g7) + 72057594037927936 * g7 := by
    clear q2
    omega
  rw [q2, r2]
  clear q2 r2
  refine ⟨by omega, ?_⟩
  omega
/-- a list without repetition that says which bits are there -/
theorem pc_len {n x : Nat} {L : List Nat} (nd : L.Nodup) (hb : ∀ b, b < n → (x.testBit b = true ↔ b ∈ L)) (hl : ∀ b ∈ L, b < n) : pcN n x = L.length := by
  unfold pcN
  refine (List.Perm.length_eq ((List.perm_ext_iff_of_nodup (List.Nodup.sublist List.filter_sublist List.nodup_range) nd).mpr fun a => ?_))
  rw [List.mem_filter, List.mem_range]
  exact ⟨fun q => (hb a q.1).mp q.2, fun q => ⟨hl a q, (hb a (hl a q)).mpr q⟩⟩

/-! THE LAW'S LOOP, and the room (printed by lawgen3.py) -/
theorem conc_z (σ : Sg) : ab_z (conc σ) = szS σ.sh := by
  unfold ab_z szS conc
  congr 1
  apply List.ext_getElem?
  intro a
  rw [List.getElem?_map, List.getElem?_mapIdx, List.getElem?_map]
  cases σ.sh[a]? with
  | none => rfl
  | some s =>
    show some (ab_z1 (sg_c σ a s)) = some (slS s)
    congr 1
    rcases s with ci | ⟨t, n⟩ | n
    · show (sg_o σ a ci).length = (sg_ft ci).length
      unfold sg_o
      exact List.length_mapIdx
    · show ab_len (sg_a σ a n t) = n
      unfold sg_a
      split <;> simp [ab_len]
    · rfl
theorem sz_C : szS sh0C = 25970 := by decide +kernel
theorem sz_R : szS sh0R = 265402 := by decide +kernel
section ROOM
variable {W : Wld} {pg : Ast} {t : Nat → Int32} {n wy ch fuel rs : Nat} {rn : Option (Rs × Es)} {res : List Nat} {i : Nat} {σ : Sg}
theorem pw_le {k j : Nat} (h : k ≤ j) : 2 ^ k ≤ 2 ^ j := Nat.pow_le_pow_right (by decide) h
theorem rm_C (h : ClA W pg t n wy ch fuel rs rn res i σ) (hi : i ≤ 512) : σ.sh.length ≤ 20000 ∧ szS σ.sh ≤ 5965482 := by
  obtain ⟨B, C, V, a, u, A, m, ver, k1, -, ⟨⟨S0, k3⟩, -, -⟩, ⟨ne, -⟩, -, -, ⟨-, tm, -, -⟩, -, -, -, rm⟩ := h
  obtain ⟨r1, r2⟩ := rm
  have hB : B.1 ≤ 20000 := k1.1.2.1.2.2.2.2.2.2.2.2.2
  obtain ⟨kc, hk, ec⟩ := k1.2.2.2.1.2.2.2.1.2.2
  have hC : C.1 ≤ 923648 := by
    have := pw_le hk
    rw [ec]
    omega
  obtain ⟨e, ev, -, he⟩ := k3.1.2.2.2.2.2.2.2
  have hV : V.1 ≤ 32768 := by
    have := pw_le he
    rw [ev]
    omega
  obtain ⟨⟨km, hkm, em⟩, -⟩ := tm
  have hm : m ≤ 8192 := by
    have := pw_le hkm
    rw [em]
    omega
  have hs : sdN σ ≤ 16384 := by
    obtain ⟨e, ng, -⟩ := ne.2
    have hp := pw_7 ng.1
    have m1 : 2 ^ e * 2 ^ e ≤ 128 * 128 := Nat.mul_le_mul hp.2 hp.2
    unfold sdN
    rw [ng.2.1, oN_t (by omega)]
    exact m1
  rw [sz_C] at r1
  clear ec ev em
  constructor
  · omega
  · omega
theorem rm_R (h : RfA W pg t n wy ch fuel rs rn res i σ) (hi : i ≤ 512) : σ.sh.length ≤ 97477 ∧ szS σ.sh ≤ 1158246 := by
  obtain ⟨m, lst, cap, m7, lst7, cap7, R, -, -, -, -, -, -, -, -, -, rm⟩ := h
  obtain ⟨-, -, -, -, -, -, n5, n7, -⟩ := R
  obtain ⟨r1, r2⟩ := rm
  obtain ⟨-, -, -, a1, a2⟩ := n5
  obtain ⟨-, -, -, b1, b2⟩ := n7
  rw [sz_R] at r2
  constructor
  · omega
  · omega
end ROOM
def QLw : ab_RX → List ab_E → Prop := fun r h => r = .inl (some (.int 1)) ∧ h.length ≤ 601024 ∧ ab_z h ≤ 7293034
theorem lw_room {i : Nat} {h : List ab_E} (hi : i ≤ 512) (S : LwS i h) : h.length ≤ 601024 ∧ ab_z h ≤ 7293034 := by
  obtain ⟨W, pg, t, n, wy, ch, fuel, rs, rn, res, σC, σR, o, fC, fR, T2, hc, hr, -⟩ := S
  obtain ⟨c1, c2⟩ := rm_C hc hi
  obtain ⟨r1, r2⟩ := rm_R hr hi
  obtain ⟨-, -, -, -, -, -, -, l1, l2⟩ := T2
  rw [conc_len, conc_len] at l1
  rw [conc_z, conc_z] at l2
  omega
theorem LwS.up {i : Nat} {h : List ab_E} (S : LwS i h) : LwS (i + 1) h := by
  obtain ⟨W, pg, t, n, wy, ch, fuel, rs, rn, res, σC, σR, o, fC, fR, T2, hc, hr, hW, hp⟩ := S
  exact ⟨_, _, _, _, _, _, _, _, _, _, σC, σR, o, fC, fR, T2, hc.up, hr.up, hW, hp⟩
theorem ix_in (i : Nat) : Int32.ofNat (6 * i) + Int32.ofInt 6 = Int32.ofNat (6 * (i + 1)) := by
  rw [show 6 * (i + 1) = 6 * i + 6 by omega, Int32.ofNat_add]
  rfl
theorem ix_c {i L : Nat} (hi : i ≤ 512) (hL : L ≤ 3072) : Int32.ofNat L - 6 < Int32.ofNat (6 * i) ↔ ¬ 6 * i + 6 ≤ L := by
  have e1 : (Int32.ofNat (6 * i)).toInt = ((6 * i : Nat) : Int) := Int32.toInt_ofNat_of_lt (by omega)
  have e0 : (Int32.ofNat L).toInt = (L : Int) := Int32.toInt_ofNat_of_lt (by omega)
  have e2 : (Int32.ofNat L - 6).toInt = (L : Int) - 6 := by
    rw [Int32.toInt_sub, e0, show (6 : Int32).toInt = 6 from rfl]
    exact Int.bmod_eq_of_le (by omega) (by omega)
  rw [Int32.lt_iff_toInt_lt, e1, e2]
  omega
section LOOP
variable {z4 z5 z6 : Value} {xs : Nat → Int32} {L : Nat}
set_option maxRecDepth 100000 in
theorem lw_fi {i : Nat} {h : List ab_E} {lv : ab_L} {d : Nat} (hi : i ≤ 512) (S : LwS i h) : ab_fin (hb_Gz (some z4, some z5, some z6) (some (0, L, fun i => .int (xs i)))) hb_GT d (mL_law, []) 1096 lv [] h QLw := by
  refine ab_fin.s1i (i := .iconst 1) (k := 1) (pc' := 1097) (n := 1) (by decide +kernel) rfl (by decide +kernel) rfl ?_
  exact ab_fin.ret (i := .ireturn) (k := 1) (some (.int 1)) (by decide +kernel) rfl ⟨rfl, lw_room hi S⟩
set_option maxRecDepth 100000 in
set_option maxHeartbeats 0 in
theorem lw_body (hL : L ≤ 3072) (hG : ab_pure (hb_Gz (some z4, some z5, some z6) (some (0, L, fun i => .int (xs i))))) (hZ : ZK ((some z4, some z5, some z6), (0, L, fun i => .int (xs i)))) {i : Nat} {h : List ab_E} (hi : i ≤ 512) (S : LwS i h) (go : 6 * i + 6 ≤ L → ∀ h', LwS (i + 1) h' → ab_fin (hb_Gz (some z4, some z5, some z6) (some (0, L, fun i => .int (xs i)))) hb_GT 2046 (mL_law, []) 23 [(4, .int (Int32.ofNat (6 * (i + 1)))), (3, .ref 3467), (2, .ref 102), (1, .ref 0), (0, .retAddr 9)] [] h' QLw) : ab_fin (hb_Gz (some z4, some z5, some z6) (some (0, L, fun i => .int (xs i)))) hb_GT 2046 (mL_law, []) 23 [(4, .int (Int32.ofNat (6 * i))), (3, .ref 3467), (2, .ref 102), (1, .ref 0), (0, .retAddr 9)] [] h QLw := by
  refine ab_fin.s2 (i := .iload 4) (k := 2) (pc' := 25) (lv' := [(4, .int (Int32.ofNat (6 * i))), (3, .ref 3467), (2, .ref 102), (1, .ref 0), (0, .retAddr 9)]) (st' := [.int (Int32.ofNat (6 * i))]) (by decide +kernel) rfl rfl ?_
  refine ab_fin.s2 (i := .aload_n 0) (k := 1) (pc' := 26) (lv' := [(4, .int (Int32.ofNat (6 * i))), (3, .ref 3467), (2, .ref 102), (1, .ref 0), (0, .retAddr 9)]) (st' := [.retAddr 9, .int (Int32.ofNat (6 * i))]) (by decide +kernel) rfl rfl ?_
  refine ab_fin.s8 (i := .arraylength) (k := 1) (pc' := 27) (st' := [.int (Int32.ofNat L), .int (Int32.ofNat (6 * i))]) (by decide +kernel) rfl rfl rfl rfl ?_
  refine ab_fin.s1i (i := .bipush 6) (k := 2) (pc' := 29) (n := 6) (by decide +kernel) rfl (by decide +kernel) rfl ?_
  refine ab_fin.s1 (i := .isub) (k := 1) (pc' := 30) (st' := [.int (Int32.ofNat L - 6), .int (Int32.ofNat (6 * i))]) (by decide +kernel) rfl rfl ?_
  refine ab_fin.br (c := Int32.ofNat L - 6 < Int32.ofNat (6 * i)) (i := .if_icmp .gt 1066) (off := 1066) (t := 1096) (pc' := 33) (r := []) (by decide +kernel) rfl (by decide +kernel) rfl (fun _ => lw_fi hi S) (fun c => ?_)
  have hi6 : 6 * i + 6 ≤ L := Decidable.not_not.mp (fun z => c ((ix_c hi hL).mpr z))
  have go2 : ∀ h', LwS (i + 1) h' → ab_fin (hb_Gz (some z4, some z5, some z6) (some (0, L, fun i => .int (xs i)))) hb_GT 2046 (mL_law, []) 1090 [(4, .int (Int32.ofNat (6 * i))), (3, .ref 3467), (2, .ref 102), (1, .ref 0), (0, .retAddr 9)] [] h' QLw := fun h' S' => by
    refine ab_fin.inc (i := .iinc 4 6) (k := 3) (pc' := 1093) (j := 4) (n := Int32.ofNat (6 * (i + 1))) (lv' := [(3, .ref 3467), (2, .ref 102), (1, .ref 0), (0, .retAddr 9)]) (by decide +kernel) rfl (ix_in i) rfl ?_
    refine ab_fin.s3 (i := .goto (-1070)) (k := 3) (t := 23) (st' := []) (by decide +kernel) (ab_goto (by decide +kernel)) ?_
    exact go hi6 h' S'
  refine ab_fin.s2 (i := .aload_n 0) (k := 1) (pc' := 34) (lv' := [(4, .int (Int32.ofNat (6 * i))), (3, .ref 3467), (2, .ref 102), (1, .ref 0), (0, .retAddr 9)]) (st' := [.retAddr 9]) (by decide +kernel) rfl rfl ?_
  refine ab_fin.s2 (i := .iload 4) (k := 2) (pc' := 36) (lv' := [(4, .int (Int32.ofNat (6 * i))), (3, .ref 3467), (2, .ref 102), (1, .ref 0), (0, .retAddr 9)]) (st' := [.int (Int32.ofNat (6 * i)), .retAddr 9]) (by decide +kernel) rfl rfl ?_
  refine ab_fin.s8 (i := .iaload) (k := 1) (pc' := 37) (st' := [.int (xs (6 * i))]) (by decide +kernel) (ab_x0 rfl (ix_0 (i := i) (L := L) (by omega) hL).1 (congrArg (fun k => Value.int (xs k)) (ix_0 (i := i) (L := L) (by omega) hL).2)) rfl rfl rfl ?_
  refine ab_fin.s1i (i := .bipush 31) (k := 2) (pc' := 39) (n := 31) (by decide +kernel) rfl (by decide +kernel) rfl ?_
  refine ab_fin.s1 (i := .iand) (k := 1) (pc' := 40) (st' := [.int (xs (6 * i) &&& 31)]) (by decide +kernel) rfl rfl ?_
  generalize xs (6 * i) &&& 31 = kk
  by_cases q0 : kk = 0
  · rw [q0]
    refine ab_fin.s3 (i := .tableswitch 1050 0 16 #[84, 188, 244, 257, 270, 281, 344, 412, 468, 543, 623, 727, 795, 839, 895, 951, 995]) (k := 84) (t := 124) (st' := []) (by decide +kernel) (ab_swI (off := 84) (by decide +kernel) (by decide +kernel) (by decide +kernel)) ?_
    exact st_feed hL hG hZ hi6 S go2
  by_cases q1 : kk = 1
  · rw [q1]
    refine ab_fin.s3 (i := .tableswitch 1050 0 16 #[84, 188, 244, 257, 270, 281, 344, 412, 468, 543, 623, 727, 795, 839, 895, 951, 995]) (k := 84) (t := 228) (st' := []) (by decide +kernel) (ab_swI (off := 188) (by decide +kernel) (by decide +kernel) (by decide +kernel)) ?_
    exact st_end hL hG hZ hi6 S go2
  by_cases q2 : kk = 2
  · rw [q2]
    refine ab_fin.s3 (i := .tableswitch 1050 0 16 #[84, 188, 244, 257, 270, 281, 344, 412, 468, 543, 623, 727, 795, 839, 895, 951, 995]) (k := 84) (t := 284) (st' := []) (by decide +kernel) (ab_swI (off := 244) (by decide +kernel) (by decide +kernel) (by decide +kernel)) ?_
    exact st_tell hL hG hZ hi6 S go2
  by_cases q3 : kk = 3
  · rw [q3]
    refine ab_fin.s3 (i := .tableswitch 1050 0 16 #[84, 188, 244, 257, 270, 281, 344, 412, 468, 543, 623, 727, 795, 839, 895, 951, 995]) (k := 84) (t := 297) (st' := []) (by decide +kernel) (ab_swI (off := 257) (by decide +kernel) (by decide +kernel) (by decide +kernel)) ?_
    exact st_program hL hG hZ hi6 S go2
  by_cases q4 : kk = 4
  · rw [q4]
    refine ab_fin.s3 (i := .tableswitch 1050 0 16 #[84, 188, 244, 257, 270, 281, 344, 412, 468, 543, 623, 727, 795, 839, 895, 951, 995]) (k := 84) (t := 310) (st' := []) (by decide +kernel) (ab_swI (off := 270) (by decide +kernel) (by decide +kernel) (by decide +kernel)) ?_
    exact st_clear hL hG hZ hi6 S go2
  by_cases q5 : kk = 5
  · rw [q5]
    refine ab_fin.s3 (i := .tableswitch 1050 0 16 #[84, 188, 244, 257, 270, 281, 344, 412, 468, 543, 623, 727, 795, 839, 895, 951, 995]) (k := 84) (t := 321) (st' := []) (by decide +kernel) (ab_swI (off := 281) (by decide +kernel) (by decide +kernel) (by decide +kernel)) ?_
    exact st_drop hL hG hZ hi6 S go2
  by_cases q6 : kk = 6
  · rw [q6]
    refine ab_fin.s3 (i := .tableswitch 1050 0 16 #[84, 188, 244, 257, 270, 281, 344, 412, 468, 543, 623, 727, 795, 839, 895, 951, 995]) (k := 84) (t := 384) (st' := []) (by decide +kernel) (ab_swI (off := 344) (by decide +kernel) (by decide +kernel) (by decide +kernel)) ?_
    exact st_set hL hG hZ hi6 S go2
  by_cases q7 : kk = 7
  · rw [q7]
    refine ab_fin.s3 (i := .tableswitch 1050 0 16 #[84, 188, 244, 257, 270, 281, 344, 412, 468, 543, 623, 727, 795, 839, 895, 951, 995]) (k := 84) (t := 452) (st' := []) (by decide +kernel) (ab_swI (off := 412) (by decide +kernel) (by decide +kernel) (by decide +kernel)) ?_
    exact st_count hL hG hZ hi6 S go2
  by_cases q8 : kk = 8
  · rw [q8]
    refine ab_fin.s3 (i := .tableswitch 1050 0 16 #[84, 188, 244, 257, 270, 281, 344, 412, 468, 543, 623, 727, 795, 839, 895, 951, 995]) (k := 84) (t := 508) (st' := []) (by decide +kernel) (ab_swI (off := 468) (by decide +kernel) (by decide +kernel) (by decide +kernel)) ?_
    exact st_below hL hG hZ hi6 S go2
  by_cases q9 : kk = 9
  · rw [q9]
    refine ab_fin.s3 (i := .tableswitch 1050 0 16 #[84, 188, 244, 257, 270, 281, 344, 412, 468, 543, 623, 727, 795, 839, 895, 951, 995]) (k := 84) (t := 583) (st' := []) (by decide +kernel) (ab_swI (off := 543) (by decide +kernel) (by decide +kernel) (by decide +kernel)) ?_
    exact st_row hL hG hZ hi6 S go2
  by_cases q10 : kk = 10
  · rw [q10]
    refine ab_fin.s3 (i := .tableswitch 1050 0 16 #[84, 188, 244, 257, 270, 281, 344, 412, 468, 543, 623, 727, 795, 839, 895, 951, 995]) (k := 84) (t := 663) (st' := []) (by decide +kernel) (ab_swI (off := 623) (by decide +kernel) (by decide +kernel) (by decide +kernel)) ?_
    exact st_nearer hL hG hZ hi6 S go2
  by_cases q11 : kk = 11
  · rw [q11]
    refine ab_fin.s3 (i := .tableswitch 1050 0 16 #[84, 188, 244, 257, 270, 281, 344, 412, 468, 543, 623, 727, 795, 839, 895, 951, 995]) (k := 84) (t := 767) (st' := []) (by decide +kernel) (ab_swI (off := 727) (by decide +kernel) (by decide +kernel) (by decide +kernel)) ?_
    exact st_call hL hG hZ hi6 S go2
  by_cases q12 : kk = 12
  · rw [q12]
    refine ab_fin.s3 (i := .tableswitch 1050 0 16 #[84, 188, 244, 257, 270, 281, 344, 412, 468, 543, 623, 727, 795, 839, 895, 951, 995]) (k := 84) (t := 835) (st' := []) (by decide +kernel) (ab_swI (off := 795) (by decide +kernel) (by decide +kernel) (by decide +kernel)) ?_
    exact st_run hL hG hZ hi6 S go2
  by_cases q13 : kk = 13
  · rw [q13]
    refine ab_fin.s3 (i := .tableswitch 1050 0 16 #[84, 188, 244, 257, 270, 281, 344, 412, 468, 543, 623, 727, 795, 839, 895, 951, 995]) (k := 84) (t := 879) (st' := []) (by decide +kernel) (ab_swI (off := 839) (by decide +kernel) (by decide +kernel) (by decide +kernel)) ?_
    exact st_told hL hG hZ hi6 S go2
  by_cases q14 : kk = 14
  · rw [q14]
    refine ab_fin.s3 (i := .tableswitch 1050 0 16 #[84, 188, 244, 257, 270, 281, 344, 412, 468, 543, 623, 727, 795, 839, 895, 951, 995]) (k := 84) (t := 935) (st' := []) (by decide +kernel) (ab_swI (off := 895) (by decide +kernel) (by decide +kernel) (by decide +kernel)) ?_
    exact st_shown hL hG hZ hi6 S go2
  by_cases q15 : kk = 15
  · rw [q15]
    refine ab_fin.s3 (i := .tableswitch 1050 0 16 #[84, 188, 244, 257, 270, 281, 344, 412, 468, 543, 623, 727, 795, 839, 895, 951, 995]) (k := 84) (t := 991) (st' := []) (by decide +kernel) (ab_swI (off := 951) (by decide +kernel) (by decide +kernel) (by decide +kernel)) ?_
    exact st_ran hL hG hZ hi6 S go2
  by_cases q16 : kk = 16
  · rw [q16]
    refine ab_fin.s3 (i := .tableswitch 1050 0 16 #[84, 188, 244, 257, 270, 281, 344, 412, 468, 543, 623, 727, 795, 839, 895, 951, 995]) (k := 84) (t := 1035) (st' := []) (by decide +kernel) (ab_swI (off := 995) (by decide +kernel) (by decide +kernel) (by decide +kernel)) ?_
    exact st_word hL hG hZ hi6 S go2
  have qd : kk.toInt < 0 ∨ 16 < kk.toInt := by
    simp only [← Int32.toInt_inj, show (0 : Int32).toInt = 0 from rfl, show (1 : Int32).toInt = 1 from rfl, show (2 : Int32).toInt = 2 from rfl, show (3 : Int32).toInt = 3 from rfl, show (4 : Int32).toInt = 4 from rfl, show (5 : Int32).toInt = 5 from rfl, show (6 : Int32).toInt = 6 from rfl, show (7 : Int32).toInt = 7 from rfl, show (8 : Int32).toInt = 8 from rfl, show (9 : Int32).toInt = 9 from rfl, show (10 : Int32).toInt = 10 from rfl, show (11 : Int32).toInt = 11 from rfl, show (12 : Int32).toInt = 12 from rfl, show (13 : Int32).toInt = 13 from rfl, show (14 : Int32).toInt = 14 from rfl, show (15 : Int32).toInt = 15 from rfl, show (16 : Int32).toInt = 16 from rfl] at q0 q1 q2 q3 q4 q5 q6 q7 q8 q9 q10 q11 q12 q13 q14 q15 q16
    omega
  refine ab_fin.s3 (i := .tableswitch 1050 0 16 #[84, 188, 244, 257, 270, 281, 344, 412, 468, 543, 623, 727, 795, 839, 895, 951, 995]) (k := 84) (t := 1090) (st' := []) (by decide +kernel) (ab_swD qd (by decide +kernel)) ?_
  exact go2 h S.up
theorem lw_at (hL : L ≤ 3072) (hG : ab_pure (hb_Gz (some z4, some z5, some z6) (some (0, L, fun i => .int (xs i))))) (hZ : ZK ((some z4, some z5, some z6), (0, L, fun i => .int (xs i)))) (k : Nat) : ∀ (i : Nat) (h : List ab_E), i + k = 512 → LwS i h → ab_fin (hb_Gz (some z4, some z5, some z6) (some (0, L, fun i => .int (xs i)))) hb_GT 2046 (mL_law, []) 23 [(4, .int (Int32.ofNat (6 * i))), (3, .ref 3467), (2, .ref 102), (1, .ref 0), (0, .retAddr 9)] [] h QLw := by
  induction k with
  | zero => exact fun i h hk S => lw_body hL hG hZ (by omega) S (fun z => absurd z (by omega))
  | succ k ih => exact fun i h hk S => lw_body hL hG hZ (by omega) S (fun _ h' S' => ih (i + 1) h' (by omega) S')
end LOOP

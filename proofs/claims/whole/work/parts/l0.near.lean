/-! PURE: what is-tests settle -/
def itB (bl : Nat → Nat → Bool) (k : Nat → Nat) : Ast → Bool
  | .tag op (.nest v (.nest w _)) => decide (op = 9) && bl (k w.toNat) v.toNat
  | _ => false
def itF (bl : Nat → Nat → Bool) (k : Nat → Nat) (ls : List Ast) : Nat → Nat
  | 0 => 0
  | i + 1 => itF bl k ls i + if ((ls[i]?).map (itB bl k)).getD false = true then 2 ^ i else 0
section PNEAR
variable {bl bl' : Nat → Nat → Bool} {k k' : Nat → Nat} {kn pl : Nat}
theorem itF_lt (ls : List Ast) : ∀ i, itF bl k ls i < 2 ^ i
  | 0 => by
    show 0 < 1
    decide
  | i + 1 => by
    have h := itF_lt ls i
    have e : 2 ^ (i + 1) = 2 * 2 ^ i := by rw [Nat.pow_succ]; omega
    rw [itF]
    split <;> omega
theorem itF_inj (ls : List Ast) : ∀ i, itF bl k ls i = itF bl' k' ls i → ∀ j l, j < i → ls[j]? = some l → itB bl k l = itB bl' k' l
  | 0, _, j, l, hj, _ => absurd hj (Nat.not_lt_zero _)
  | i + 1, h, j, l, hj, hl => by
    have h1 := itF_lt (bl := bl) (k := k) ls i
    have h2 := itF_lt (bl := bl') (k := k') ls i
    rw [itF, itF] at h
    by_cases e : j = i
    · subst e
      rw [hl] at h
      simp only [Option.map_some, Option.getD_some] at h
      have p2 : 1 ≤ 2 ^ j := Nat.one_le_two_pow
      by_cases a : itB bl k l = true
      · by_cases b : itB bl' k' l = true
        · rw [a, b]
        · rw [if_pos a, if_neg b] at h
          omega
      · by_cases b : itB bl' k' l = true
        · rw [if_neg a, if_pos b] at h
          omega
        · rw [Bool.eq_false_iff.mpr a, Bool.eq_false_iff.mpr b]
    · refine itF_inj ls i ?_ j l (by omega) hl
      split at h <;> split at h <;> omega
theorem tsB_cg {v : Nat → Int} : ∀ x, tsW kn pl x → (∀ l ∈ lvT x, itB bl k l = itB bl' k' l) → tsB bl k v x = tsB bl' k' v x := by
  refine ts_ind (fun v' w pb mo h1 h2 h3 h4 h => ?_) (fun v' w h1 h2 h => ?_) (fun op v' w a b h1 wa wb ha hb h => ?_) (fun v' w a wa ha h => ?_)
  · rw [tsB_2, tsB_2]
    rfl
  · have := h _ (by rw [lvT_2, if_pos (by decide)]; exact List.mem_singleton.mpr rfl)
    rw [tsB_2, tsB_2, if_neg (by decide), if_neg (by decide), if_neg (by decide), if_pos rfl, if_neg (by decide), if_neg (by decide), if_neg (by decide), if_pos rfl]
    exact this
  · rw [lvT_2, if_neg (by omega)] at h
    rw [tsB_2, tsB_2, ha (fun l hl => h l (List.mem_append_left _ hl)), hb (fun l hl => h l (List.mem_append_right _ hl))]
    rcases h1 with rfl | rfl
    · rw [if_pos rfl, if_pos rfl]
    · rw [if_neg (by decide), if_pos rfl, if_neg (by decide), if_pos rfl]
  · rw [lvT_2, if_neg (by decide)] at h
    rw [tsB_2, tsB_2, ha (fun l hl => h l (List.mem_append_left _ hl)), if_neg (by decide), if_neg (by decide), if_pos rfl, if_neg (by decide), if_neg (by decide), if_pos rfl]
theorem tk_cgk {sp : List Spc} {x : Ast} (hx : x = .nil ∨ tsW kn pl x) (h : ∀ l ∈ lvT x, itB bl k l = itB bl' k' l) (v : Nat → Int) : tkM pl sp bl k x v = tkM pl sp bl' k' x v := by
  unfold tkM
  rcases hx with rfl | hx
  · rfl
  · rw [tsB_cg x hx h]
theorem ak_cgk {X Y : List Spc × Ast} (h : ∀ v, tkM pl X.1 bl k X.2 v = tkM pl X.1 bl' k' X.2 v) (g : ∀ v, tkM pl Y.1 bl k Y.2 v = tkM pl Y.1 bl' k' Y.2 v) : akI pl bl k X Y = akI pl bl' k' X Y := by
  unfold akI alP
  simp only [h, g]
/-- what is asked is settled by the cuts -/
theorem ak_cu {as : List AkQ} {w : Nat} {q : AkQ} {y y' : Nat → Int} (hw : as[w]? = some q) (h : ∀ l, l < (cuL as).length → cuB (cuL as) y l = cuB (cuL as) y' l) : akH y q = akH y' q := by
  obtain ⟨l, el⟩ := cuL_at hw
  have ll : (cuL as).length = (cuL (as.take w)).length + ((akC q).length + l.length) := by rw [el, List.length_append, List.length_append]
  have g0 : ∀ (i : Nat) (c : Cut), (akC q)[i]? = some c → (decide (y c.1 - y c.2.1 ≤ c.2.2) = decide (y' c.1 - y' c.2.1 ≤ c.2.2)) := fun i c hc => by
    have hi := (List.getElem?_eq_some_iff.mp hc).1
    have e : (cuL as)[(cuL (as.take w)).length + i]? = some c := by
      rw [el, List.getElem?_append_right (by omega), show (cuL (as.take w)).length + i - (cuL (as.take w)).length = i by omega, List.getElem?_append_left hi]
      exact hc
    have := h ((cuL (as.take w)).length + i) (by omega)
    unfold cuB at this
    rw [e] at this
    exact this
  by_cases q1 : q.1 = true
  · have e : akC q = [(q.2.1, q.2.2.1, q.2.2.2), (q.2.2.1, q.2.1, -q.2.2.2)] := if_pos q1
    have b0 := decide_eq_decide.mp (g0 0 _ (by rw [e]; rfl))
    have b1 := decide_eq_decide.mp (g0 1 _ (by rw [e]; rfl))
    dsimp only at b0 b1
    unfold akH
    rw [if_pos q1, if_pos q1]
    exact decide_eq_decide.mpr (by omega)
  · have e : akC q = [(q.2.1, q.2.2.1, q.2.2.2)] := if_neg q1
    have b0 := g0 0 _ (by rw [e]; rfl)
    unfold akH
    rw [if_neg q1, if_neg q1]
    exact b0
theorem tsB_lv {v v' : Nat → Int} : ∀ x, tsW kn pl x → (∀ l ∈ lvT x, tsB bl k v l = tsB bl k v' l) → tsB bl k v x = tsB bl k v' x := by
  refine ts_ind (fun v' w pb mo h1 h2 h3 h4 h => ?_) (fun v' w h1 h2 h => ?_) (fun op v' w a b h1 wa wb ha hb h => ?_) (fun v' w a wa ha h => ?_)
  · exact h _ (by rw [lvT_2, if_pos (by decide)]; exact List.mem_singleton.mpr rfl)
  · exact h _ (by rw [lvT_2, if_pos (by decide)]; exact List.mem_singleton.mpr rfl)
  · rw [lvT_2, if_neg (by omega)] at h
    rw [tsB_2, tsB_2, ha (fun l hl => h l (List.mem_append_left _ hl)), hb (fun l hl => h l (List.mem_append_right _ hl))]
    rcases h1 with rfl | rfl
    · rw [if_pos rfl, if_pos rfl]
    · rw [if_neg (by decide), if_pos rfl, if_neg (by decide), if_pos rfl]
  · rw [lvT_2, if_neg (by decide)] at h
    rw [tsB_2, tsB_2, ha (fun l hl => h l (List.mem_append_left _ hl)), if_neg (by decide), if_neg (by decide), if_pos rfl, if_neg (by decide), if_neg (by decide), if_pos rfl]
/-- numbers of one cell are taken alike -/
theorem tk_ce {as : List AkQ} {sp : List Spc} {x : Ast} {v v' : Nat → Int} (hx : x = .nil ∨ tsW kn pl x) (hp : pl ≤ 3) (hs : ∀ q ∈ asQ bl k sp x, q ∈ as) (h : ∀ l, l < (cuL as).length → cuB (cuL as) (vx v) l = cuB (cuL as) (vx v') l) : tkM pl sp bl k x v = tkM pl sp bl k x v' := by
  have ka : ∀ q ∈ asQ bl k sp x, akH (vx v) q = akH (vx v') q := fun q hq => by
    obtain ⟨w, hw⟩ := List.mem_iff_getElem?.mp (hs q hq)
    exact ak_cu hw h
  have e1 : ∀ p, p < 3 → (!hsI sp p || decide (v p = eqI sp p)) = (!hsI sp p || decide (v' p = eqI sp p)) := fun p hp => by
    cases hh : hsI sp p with
    | false => rfl
    | true =>
      have e0 : eqA sp p = [(true, p + 1, 0, eqI sp p)] := if_pos hh
      have hm : (true, p + 1, 0, eqI sp p) ∈ asQ bl k sp x := by
        have hm : (true, p + 1, 0, eqI sp p) ∈ eqA sp p := by rw [e0]; exact List.mem_singleton.mpr rfl
        unfold asQ
        have : p = 0 ∨ p = 1 ∨ p = 2 := by omega
        rcases this with rfl | rfl | rfl
        · exact List.mem_append_left _ hm
        · exact List.mem_append_right _ (List.mem_append_left _ hm)
        · exact List.mem_append_right _ (List.mem_append_right _ (List.mem_append_left _ hm))
      have := ka _ hm
      have a : ∀ v : Nat → Int, akH (vx v) (true, p + 1, 0, eqI sp p) = decide (v p = eqI sp p) := fun v => by
        show (if true = true then decide (v p - 0 = eqI sp p) else _) = _
        rw [if_pos rfl]
        exact decide_eq_decide.mpr (by omega)
      rw [a, a] at this
      rw [this]
  unfold tkM
  have e2 : ((List.range pl).all fun i => !hsI sp i || decide (v i = eqI sp i)) = ((List.range pl).all fun i => !hsI sp i || decide (v' i = eqI sp i)) := by
    rw [Bool.eq_iff_iff, List.all_eq_true, List.all_eq_true]
    constructor
    · intro g i hi
      rw [← e1 i (by have := List.mem_range.mp hi; omega)]
      exact g i hi
    · intro g i hi
      rw [e1 i (by have := List.mem_range.mp hi; omega)]
      exact g i hi
  rw [e2]
  rcases hx with rfl | hx
  · rfl
  · rw [tsB_lv x hx (fun l hl => ?_)]
    rw [← lf_ok (bl := bl) (k := k) v hx hl, ← lf_ok (bl := bl) (k := k) v' hx hl]
    exact ka _ (List.mem_append_right _ (List.mem_append_right _ (List.mem_append_right _ (List.mem_map_of_mem hl))))
end PNEAR
theorem cd_lt' {cs : List Cut} (h : cs.length ≤ 36) (x : Nat → Int) : cdX cs x < 999999 := by
  have s := uu_sum cs
  refine Nat.lt_of_lt_of_le ?_ (Nat.le_of_lt_succ (six_lt (a := uuP cs 0) (b := uuP cs 1) (c := uuP cs 2) (d := uuP cs 3) (e := uuP cs 4) (f := uuP cs 5) (by omega)))
  unfold cdX
  exact mr_lt (rk_le ..) (mr_lt (rk_le ..) (mr_lt (rk_le ..) (mr_lt (rk_le ..) (mr_lt (rk_le ..) (Nat.lt_succ_of_le (rk_le ..))))))
theorem SnC.lt {cs : List Cut} {P : (Nat → Int) → Prop} {m : Nat} (h : SnC cs P m) (hl : cs.length ≤ 36) : m ≤ 999999 := by
  obtain ⟨l, h1, h2, h3⟩ := h
  rw [← h2]
  refine nd_len 999999 l h1 (fun c hc => ?_)
  obtain ⟨x, hx, -⟩ := h3 c hc
  rw [← hx]
  exact cd_lt' hl x
/-! THE CLASS: small things that nearness asks -/
theorem sh_or {s p l : Nat} (hs : s < 31) (hp : p * 2 ^ s + l < 2147483648) (hl : l < 2 ^ s) : (Int32.ofNat p <<< (Int32.ofNat s &&& 31)) ||| Int32.ofNat l = Int32.ofNat (p * 2 ^ s + l) := by
  have e5 : ∀ s : Fin 31, ((Int32.ofNat s.val &&& 31).toBitVec.smod 32) = BitVec.ofNat 32 s.val := by decide +kernel
  apply Int32.toBitVec_inj.mp
  rw [Int32.toBitVec_or, Int32.toBitVec_shiftLeft, oN_bv, oN_bv, oN_bv, e5 ⟨s, hs⟩]
  apply BitVec.eq_of_toNat_eq
  simp only [BitVec.toNat_or, BitVec.shiftLeft_eq', BitVec.toNat_shiftLeft, BitVec.toNat_ofNat]
  have h1 : 1 ≤ 2 ^ s := Nat.one_le_two_pow
  have h2 : p * 1 ≤ p * 2 ^ s := Nat.mul_le_mul_left _ h1
  rw [Nat.mod_eq_of_lt (show p < 2 ^ 32 by omega), Nat.mod_eq_of_lt (show l < 2 ^ 32 by omega), Nat.mod_eq_of_lt (show p * 2 ^ s + l < 2 ^ 32 by omega), Nat.mod_eq_of_lt (show s < 2 ^ 32 by omega), Nat.shiftLeft_eq, Nat.mod_eq_of_lt (show p * 2 ^ s < 2 ^ 32 by omega), ← Nat.shiftLeft_eq, ← Nat.shiftLeft_add_eq_or_of_lt hl, Nat.shiftLeft_eq]
theorem an_1023 (x : Int32) : ∃ s, s < 1024 ∧ x &&& (1023 : Int32) = Int32.ofNat s := by
  refine ⟨x.toBitVec.toNat % 1024, Nat.mod_lt _ (by decide), ?_⟩
  apply Int32.toBitVec_inj.mp
  rw [Int32.toBitVec_and, oN_bv]
  apply BitVec.eq_of_toNat_eq
  rw [BitVec.toNat_and, BitVec.toNat_ofNat, show (1023 : Int32).toBitVec.toNat = 2 ^ 10 - 1 from rfl, Nat.and_two_pow_sub_one_eq_mod, Nat.mod_eq_of_lt (a := _ % 1024) (Nat.lt_trans (Nat.mod_lt _ (by decide)) (by decide))]
theorem ky_hi {p r : Nat} (hp : 4 * p + r < 2147483648) (hr : r < 4) : (Int32.toUInt32 (Int32.ofNat (4 * p + r)) >>> (Int32.toUInt32 (2 : Int32) &&& Int32.toUInt32 31)).toInt32 = Int32.ofNat p := by
  apply Int32.toBitVec_inj.mp
  show (BitVec.ofNat 32 (4 * p + r)) >>> (2 : BitVec 32) = BitVec.ofNat 32 p
  apply BitVec.eq_of_toNat_eq
  rw [BitVec.ushiftRight_eq', BitVec.toNat_ushiftRight, BitVec.toNat_ofNat, BitVec.toNat_ofNat, Nat.mod_eq_of_lt (show 4 * p + r < 2 ^ 32 by omega), Nat.mod_eq_of_lt (show p < 2 ^ 32 by omega), show (2 : BitVec 32).toNat = 2 from rfl, Nat.shiftRight_eq_div_pow]
  omega
theorem ky_lo {p r : Nat} (hp : 4 * p + r < 2147483648) (hr : r < 4) : Int32.ofNat (4 * p + r) &&& (3 : Int32) = Int32.ofNat r := by
  apply Int32.toBitVec_inj.mp
  rw [Int32.toBitVec_and, oN_bv, oN_bv]
  apply BitVec.eq_of_toNat_eq
  rw [BitVec.toNat_and, BitVec.toNat_ofNat, BitVec.toNat_ofNat, show (3 : Int32).toBitVec.toNat = 2 ^ 2 - 1 from rfl, Nat.and_two_pow_sub_one_eq_mod, Nat.mod_eq_of_lt (show 4 * p + r < 2 ^ 32 by omega), Nat.mod_eq_of_lt (show r < 2 ^ 32 by omega)]
  omega

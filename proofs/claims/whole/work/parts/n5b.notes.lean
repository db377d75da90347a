/-! PURE: what a choice is noted by -/
def kwN (k : Nat → Nat) : Nat → Nat
  | 0 => 0
  | n + 1 => kwN k n * 32 + k n
theorem kwN_lt {k : Nat → Nat} : ∀ n, (∀ p, p < n → k p < 32) → kwN k n < 32 ^ n
  | 0, _ => by
    show 0 < 1
    decide
  | n + 1, h => by
    have ih := kwN_lt n (fun p hp => h p (by omega))
    have := h n (by omega)
    rw [kwN, Nat.pow_succ]
    omega
theorem kwN_inj {k k' : Nat → Nat} : ∀ n, (∀ p, p < n → k p < 32) → (∀ p, p < n → k' p < 32) → kwN k n = kwN k' n → ∀ p, p < n → k p = k' p
  | 0, _, _, _, p, hp => absurd hp (Nat.not_lt_zero _)
  | n + 1, h, h', e, p, hp => by
    have a := h n (by omega)
    have b := h' n (by omega)
    rw [kwN, kwN] at e
    by_cases q : p = n
    · subst q
      omega
    · exact kwN_inj n (fun p hp => h p (by omega)) (fun p hp => h' p (by omega)) (by omega) p (by omega)
theorem i64_or5 {e q : Nat} (he : e < 268435456) (hq : q < 32) : (Int64.ofNat e <<< (Int32.toInt64 (5 : Int32) &&& 63)) ||| Int64.ofNat q = Int64.ofNat (e * 32 + q) := by
  refine i64_e (by omega) ?_
  rw [Int64.toBitVec_or, BitVec.toNat_or, i64_nn (e := q) (by omega), Int64.toBitVec_shiftLeft]
  have key : ((Int32.toInt64 (5 : Int32) &&& 63).toBitVec.smod 64) = BitVec.ofNat 64 5 := by decide
  rw [key, BitVec.shiftLeft_eq', BitVec.toNat_shiftLeft, i64_nn (e := e) (by omega), BitVec.toNat_ofNat, Nat.mod_eq_of_lt (a := 5) (by decide), Nat.shiftLeft_eq, Nat.mod_eq_of_lt (by omega)]
  have := Nat.shiftLeft_add_eq_or_of_lt (i := 5) (show q < 2 ^ 5 by omega) e
  rw [Nat.shiftLeft_eq] at this
  rw [← this]
theorem i64_oj {a b : Nat} (ha : a < 9223372036854775808) (hb : b < 9223372036854775808) (h : Int64.ofNat a = Int64.ofNat b) : a = b := by
  have := congrArg (fun x : Int64 => x.toBitVec.toNat) h
  rw [i64_nn ha, i64_nn hb] at this
  exact this
theorem op_p1 : ∀ a b : Option Nat, (match a with
    | some l => l + 1
    | none => 0) = (match b with
    | some l => l + 1
    | none => 0) → a = b
  | none, none, _ => rfl
  | some a, some b, h => congrArg some (Nat.succ.inj h)
  | none, some b, h => absurd h.symm (Nat.succ_ne_zero b)
  | some a, none, h => absurd h (Nat.succ_ne_zero a)
theorem lyE_inj {W : Wld} {on on' : List Nat} (h8 : W.2.2.1.length ≤ 8) (ho : LyW W on) (ho' : LyW W on') (e : lyE on = lyE on') : on = on' := by
  have b := lyE_b h8 ho
  have b' := lyE_b h8 ho'
  unfold lyE at e
  have e1 := i64_oj (by omega) (by omega) e
  have a := enL_at on.reverse (fun l hl => by have := ho.2.1 l (List.mem_reverse.mp hl); omega)
  have a' := enL_at on'.reverse (fun l hl => by have := ho'.2.1 l (List.mem_reverse.mp hl); omega)
  have r : on.reverse = on'.reverse := by
    apply List.ext_getElem?
    intro i
    have x := a i
    have x' := a' i
    rw [e1, x'] at x
    exact (op_p1 _ _ x).symm
  exact List.reverse_inj.mp r
/-- what is chosen for -/
def NtG (W : Wld) (c : Nat) (k : Nat → Nat) (on ap : List Nat) : Prop := c < W.2.1.length ∧ (∀ p, p < plW W.2.1 c → k p < W.1.length) ∧ (∀ p, plW W.2.1 c ≤ p → k p = 0) ∧ LyW W on ∧ ap ≠ [] ∧ (∀ m ∈ ap, m ∈ ftL W c k) ∧ ap = ((List.range W.2.2.2.length).map (· + 1)).filter (fun m => decide (m ∈ ap))
theorem ftL_mc {W : Wld} {c m : Nat} {k : Nat → Nat} (h : m ∈ ftL W c k) : mcW W.2.2.2 m = c ∧ 1 ≤ m ∧ m ≤ W.2.2.2.length := by
  unfold ftL at h
  obtain ⟨h1, h2⟩ := List.mem_filter.mp h
  obtain ⟨j, hj, rfl⟩ := List.mem_map.mp h1
  have h3 := (Bool.and_eq_true_iff.mp h2).1
  unfold mnB at h3
  have := List.mem_range.mp hj
  exact ⟨of_decide_eq_true (Bool.and_eq_true_iff.mp h3).2, by omega, by omega⟩
theorem NtG.eq {W : Wld} {c c' : Nat} {k k' : Nat → Nat} {on on' ap ap' : List Nat} (h24 : W.1.length ≤ 24) (h8 : W.2.2.1.length ≤ 8) (h120 : W.2.2.2.length ≤ 120) (p3 : ∀ c, c < W.2.1.length → plW W.2.1 c ≤ 3) (g : NtG W c k on ap) (g' : NtG W c' k' on' ap') (ek : Int64.ofNat (kwN k (plW W.2.1 c)) = Int64.ofNat (kwN k' (plW W.2.1 c'))) (eo : lyE on = lyE on') (ea : ∀ m, 1 ≤ m → m ≤ 128 → decide (m ∈ ap) = decide (m ∈ ap')) : c = c' ∧ k = k' ∧ on = on' ∧ ap = ap' := by
  obtain ⟨c1, k1, z1, o1, n1, f1, a1⟩ := g
  obtain ⟨c2, k2, z2, o2, n2, f2, a2⟩ := g'
  have eap : ap = ap' := by
    rw [a1, a2]
    refine List.filter_congr (fun m hm => ?_)
    obtain ⟨j, hj, rfl⟩ := List.mem_map.mp hm
    have := List.mem_range.mp hj
    exact ea (j + 1) (by omega) (by omega)
  subst eap
  obtain ⟨m, hm⟩ := List.exists_mem_of_ne_nil _ n1
  have ec : c = c' := (ftL_mc (f1 m hm)).1.symm.trans (ftL_mc (f2 m hm)).1
  subst ec
  have pl := p3 c c1
  have lt : ∀ {k : Nat → Nat}, (∀ p, p < plW W.2.1 c → k p < W.1.length) → kwN k (plW W.2.1 c) < 9223372036854775808 := fun {k} hk => by
    have a := kwN_lt (k := k) (plW W.2.1 c) (fun p hp => by have := hk p hp; omega)
    have b : 32 ^ plW W.2.1 c ≤ 32 ^ 3 := Nat.pow_le_pow_right (by decide) pl
    omega
  have e1 := i64_oj (lt k1) (lt k2) ek
  have e2 := kwN_inj (plW W.2.1 c) (fun p hp => by have := k1 p hp; omega) (fun p hp => by have := k2 p hp; omega) e1
  refine ⟨rfl, funext fun p => ?_, lyE_inj h8 o1 o2 eo, rfl⟩
  by_cases q : p < plW W.2.1 c
  · exact e2 p q
  · rw [z1 p (by omega), z2 p (by omega)]
/-! THE CLASS: rows that were laid are used again -/
/-- the note at home H -/
def NtV (W : Wld) (H c : Nat) (k : Nat → Nat) (on ap : List Nat) (σ : Sg) : Prop := σ.l 101 (5 * H + 1) = Int64.ofNat (kwN k (plW W.2.1 c)) ∧ σ.l 101 (5 * H + 2) = lyE on ∧ ∀ m, 1 ≤ m → m ≤ 128 → pb (σ.l 101 (5 * H + 3), σ.l 101 (5 * H + 4)) m = decide (m ∈ ap)
def NtH (W : Wld) (wy H : Nat) (σ : Sg) : Prop := (σ.l 101 (5 * H)).toInt ≤ (σ.i 1 16).toInt ∧ (σ.l 101 (5 * H) = Int32.toInt64 (σ.i 1 16) → ∃ c k on ap, NtG W c k on ap ∧ NtV W H c k on ap σ ∧ ∀ r, r < 4 → RwH H r (rowW W wy on c k ap r).1 (rowW W wy on c k ap r).2 σ)
/-- the notes are right -/
def NtS (W : Wld) (wy : Nat) (σ : Sg) : Prop := ∀ H, H ≤ 25 → NtH W wy H σ
section NOTES
variable {Z : zT} {d : Nat} {σ τ : Sg} {K : kS} {C : Nat × Nat × Nat × Nat} {W : Wld} {wy a0 c H : Nat} {k : Nat → Nat} {on ap R : List Nat} {sv : Bool} {r : Nat}
theorem RwH.keep (h : RwH H r R sv σ) (hr : r < 4) (g5 : ∀ j, 128 * H ≤ j → j < 128 * H + 128 → τ.i 85 j = σ.i 85 j) (g6 : ∀ j, 4 * H ≤ j → j < 4 * H + 4 → τ.i 86 j = σ.i 86 j ∧ τ.i 87 j = σ.i 87 j ∧ τ.i 88 j = σ.i 88 j) : RwH H r R sv τ := by
  obtain ⟨fr, h1, h2, h3, h4, h5⟩ := h
  obtain ⟨a, b, c⟩ := g6 (4 * H + r) (by omega) (by omega)
  refine ⟨fr, a.trans h1, h2, b.trans h3, c.trans h4, fun i x hx => ?_⟩
  have il := (List.getElem?_eq_some_iff.mp hx).1
  rw [g5 _ (by omega) (by omega)]
  exact h5 i x hx
theorem NtH.keep (h : NtH W wy H σ) (g1 : τ.i 1 16 = σ.i 1 16) (gl : ∀ j, 5 * H ≤ j → j < 5 * H + 5 → τ.l 101 j = σ.l 101 j) (g5 : ∀ j, 128 * H ≤ j → j < 128 * H + 128 → τ.i 85 j = σ.i 85 j) (g6 : ∀ j, 4 * H ≤ j → j < 4 * H + 4 → τ.i 86 j = σ.i 86 j ∧ τ.i 87 j = σ.i 87 j ∧ τ.i 88 j = σ.i 88 j) : NtH W wy H τ := by
  obtain ⟨h1, h2⟩ := h
  unfold NtH NtV
  rw [g1, gl (5 * H) (by omega) (by omega), gl (5 * H + 1) (by omega) (by omega), gl (5 * H + 2) (by omega) (by omega), gl (5 * H + 3) (by omega) (by omega), gl (5 * H + 4) (by omega) (by omega)]
  refine ⟨h1, fun q => ?_⟩
  obtain ⟨c, k, on, ap, a1, a2, a3⟩ := h2 q
  exact ⟨c, k, on, ap, a1, a2, fun r hr => (a3 r hr).keep hr g5 g6⟩
theorem NtS.row (h : NtS W wy σ) (e : ∀ a, a = 1 ∨ (85 ≤ a ∧ a ≤ 88) ∨ a = 101 → τ.i a = σ.i a ∧ τ.l a = σ.l a) : NtS W wy τ := fun H hH => (h H hH).keep (by rw [(e 1 (by omega)).1]) (fun j _ _ => by rw [(e 101 (by omega)).2]) (fun j _ _ => by rw [(e 85 (by omega)).1]) (fun j _ _ => ⟨by rw [(e 86 (by omega)).1], by rw [(e 87 (by omega)).1], by rw [(e 88 (by omega)).1]⟩)
theorem NtS.xf {E : Nat → Prop} (h : NtS W wy σ) (g : XF E σ τ) (hE : ∀ a, E a → a ≠ 1 ∧ (a < 85 ∨ 88 < a) ∧ a ≠ 101) : NtS W wy τ := h.row (fun a q => g.2.2 a (fun z => by have := hE a z; omega))
/-- whether the rows are there -/
theorem cl_isLaid (h : QwS C W wy a0 σ) (ka : KaS W 89 (plW W.2.1 c) k σ) (mk : MkA ap σ) (nt : NtS W wy σ) (g : NtG W c k on ap) (hH : H ≤ 25) (kk : ∀ (τ : Sg) (b : Bool), XF (fun a => a = 101) σ τ → (∀ j, j < 5 * H ∨ 5 * H + 5 ≤ j → τ.l 101 j = σ.l 101 j) → τ.l 101 (5 * H) = Int32.toInt64 (σ.i 1 16) → NtV W H c k on ap τ → (b = true → ∀ r, r < 4 → RwH H r (rowW W wy on c k ap r).1 (rowW W wy on c k ap r).2 σ) → K (.inl (some (.int (if b = true then 1 else 0)))) τ) : C_X0_isLaid_0 Z (d + 1) σ (Int32.ofNat c) (Int32.ofNat H) (lyE on) K := by
  have hc := g.1
  obtain ⟨c24, ec, p1, p3⟩ := h.cx hc
  have w24 := h.1.2.1.2.1
  have kl : ∀ p, p < plW W.2.1 c → k p < W.1.length := g.2.1
  have fin : ∀ (s : Bool), (s = true → ∀ r, r < 4 → RwH H r (rowW W wy on c k ap r).1 (rowW W wy on c k ap r).2 σ) → C_X0_isLaid_133 Z (d + 1) σ (lyE on) (Int64.ofNat (kwN k (plW W.2.1 c))) (Int32.ofNat (5 * H)) (if s = true then 1 else 0) K := fun s hs => by
    refine T_X0_isLaid_133 h.1.1 ?_
    rw [show (1 : Int32) = Int32.ofNat 1 from rfl, show (2 : Int32) = Int32.ofNat 2 from rfl, show (3 : Int32) = Int32.ofNat 3 from rfl, show (4 : Int32) = Int32.ofNat 4 from rfl, oN_add, oN_add, oN_add, oN_add, oN_t (by omega), oN_t (by omega), oN_t (by omega), oN_t (by omega), oN_t (by omega)]
    refine ⟨ib_oN (by omega) (by decide), ib_oN (by omega) (by decide), ib_oN (by omega) (by decide), ib_oN (by omega) (by decide), ib_oN (by omega) (by decide), by split <;> rfl, ?_⟩
    refine kk _ s ((((((XF.refl (fun a => a = 101) σ).wl rfl).wl rfl).wl rfl).wl rfl).wl rfl) (fun j hj => ?_) ?_ ⟨?_, ?_, fun m h1 h2 => ?_⟩ hs
    · rw [wl_ne (by omega), wl_ne (by omega), wl_ne (by omega), wl_ne (by omega), wl_ne (by omega)]
    · rw [wl_ne (by omega), wl_ne (by omega), wl_ne (by omega), wl_ne (by omega), wl_eq]
    · rw [wl_ne (by omega), wl_ne (by omega), wl_ne (by omega), wl_eq]
    · rw [wl_ne (by omega), wl_ne (by omega), wl_eq]
    · rw [wl_ne (show ¬ (101 = 101 ∧ 5 * H + 3 = 5 * H + 4) by omega), wl_eq, wl_eq]
      exact mk m h1 h2
  have no : C_X0_isLaid_132 Z (d + 1) σ (lyE on) (Int64.ofNat (kwN k (plW W.2.1 c))) (Int32.ofNat (5 * H)) K := T_X0_isLaid_132 h.1.1 (fin false (fun z => by cases z))
  have yes : σ.l 101 (5 * H) = Int32.toInt64 (σ.i 1 16) → σ.l 101 (5 * H + 1) = Int64.ofNat (kwN k (plW W.2.1 c)) → σ.l 101 (5 * H + 2) = lyE on → σ.l 101 (5 * H + 3) = σ.l 84 13 → σ.l 101 (5 * H + 4) = σ.l 84 14 → C_X0_isLaid_133 Z (d + 1) σ (lyE on) (Int64.ofNat (kwN k (plW W.2.1 c))) (Int32.ofNat (5 * H)) 1 K := fun q0 q1 q2 q3 q4 => by
    refine fin true (fun _ => ?_)
    obtain ⟨c', k', on', ap', g', ⟨v1, v2, v3⟩, rw'⟩ := (nt H hH).2 q0
    have eq := NtG.eq w24 h.2.2.2.2.2.1 h.1.2.2.2.2.1.2.1 (fun c hc => (h.cx hc).2.2.2) g g' (q1.symm.trans v1) (q2.symm.trans v2) (fun m h1 h2 => by
      have a := v3 m h1 h2
      rw [q3, q4, mk m h1 h2] at a
      exact a)
    obtain ⟨rfl, rfl, rfl, rfl⟩ := eq
    exact rw'
  have lp : ∀ f n, n + f = plW W.2.1 c → C_X0_isLaid_6 Z (d + 1) σ (Int32.ofNat c) (Int32.ofNat H) (lyE on) (Int64.ofNat (kwN k n)) (Int32.ofNat n) K := by
    intro f
    induction f with
    | zero =>
      intro n hn
      have en : n = plW W.2.1 c := by omega
      subst en
      refine T_X0_isLaid_6 h.1.1 ?_
      rw [oN_t (by omega), ec, show (5 : Int32) = Int32.ofNat 5 from rfl, oN_mul, show H * 5 = 5 * H by omega, show (1 : Int32) = Int32.ofNat 1 from rfl, show (2 : Int32) = Int32.ofNat 2 from rfl, show (3 : Int32) = Int32.ofNat 3 from rfl, show (4 : Int32) = Int32.ofNat 4 from rfl, oN_add, oN_add, oN_add, oN_add, oN_t (by omega), oN_t (by omega), oN_t (by omega), oN_t (by omega), oN_t (by omega), cmpE, cmpE, cmpE, cmpE, cmpE]
      exact ⟨ib_oN c24 (by decide), fun _ => ⟨ib_oN (by omega) (by decide), fun _ => no, fun q0 => ⟨ib_oN (by omega) (by decide), fun _ => no, fun q1 => ⟨ib_oN (by omega) (by decide), fun _ => no, fun q2 => ⟨ib_oN (by omega) (by decide), fun _ => no, fun q3 => ⟨ib_oN (by omega) (by decide), fun _ => no, fun q4 => yes q0 q1 q2 q3 q4⟩⟩⟩⟩⟩, fun z => absurd (Int32.le_refl _) z⟩
    | succ f ih =>
      intro n hn
      obtain ⟨kp, kw⟩ := ka.2 n (by omega)
      have a := kwN_lt (k := k) n (fun p hp => by have := kl p (by omega); omega)
      have b : 32 ^ n ≤ 32 ^ 3 := Nat.pow_le_pow_right (by decide) (by omega)
      refine T_X0_isLaid_6 h.1.1 ?_
      rw [oN_t (by omega), ec, oN_le (by omega) (by omega), oN_t (by omega), kp, oN_64 (by omega), i64_or5 (by omega) (by omega), oN_1]
      exact ⟨ib_oN c24 (by decide), fun z => absurd z (by omega), fun _ => ⟨ib_oN (by omega) (by decide), ih (n + 1) (by omega)⟩⟩
  exact T_X0_isLaid_0 h.1.1 (lp _ 0 (Nat.zero_add _))
end NOTES

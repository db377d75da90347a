/-! THE CLASS: names that must be new -/
section NEW
variable {Z : zT} {d : Nat} {t : Nat → Int32} {n N : Nat} {B : Nat × Nat × Nat × Nat × Nat} {C : Nat × Nat × Nat × Nat} {W : Wld} {σ τ υ : Sg} {K : kS} {vs : List (List Int32)} {R : HR}
theorem idx_nn {o : Option Nat} (h : ∀ j, o = some j → j < 1000) : (0 : Int32) ≤ Int32.ofInt (idx o) ↔ o.isSome = true := by
  cases o with
  | none => exact ⟨fun y => absurd y (by decide), fun y => by cases y⟩
  | some j =>
    have := h j rfl
    refine ⟨fun _ => rfl, fun _ => ?_⟩
    rw [idx_s, show (0 : Int32) = Int32.ofNat 0 from rfl, oN_le (by decide) (by omega)]
    exact Nat.zero_le _
theorem h_told {nm : List Int32} {w : Int} (hB : HB t n N B C W σ) (hn : nm.length ≤ 16 ∧ ∀ c ∈ nm, nmC c) (k : K (.inl (some (.int (if toE (enW W.1 W.2.1 W.2.2.1 w) nm = true then 1 else 0)))) σ) : C_X11_isTold_0 Z (d + 2) σ (nmH nm) (nmT nm) K := by
  obtain ⟨fx, -, -, -, -, -, ⟨k1, k2, k3, k4, -⟩, ⟨q1, q2, q3, q4, -⟩, ⟨l1, l2, l3, l4⟩⟩ := hB
  have ek : (W.1.map (·.1)).length = W.1.length := List.length_map ..
  have eq : (W.2.1.map (·.1)).length = W.2.1.length := List.length_map ..
  have te : toE (enW W.1 W.2.1 W.2.2.1 w) nm = ((lstI (W.1.map (·.1)) nm).isSome || (lstI (W.2.1.map (·.1)) nm).isSome || (lstI W.2.2.1 nm).isSome) := by
    have e1 : (enW W.1 W.2.1 W.2.2.1 w).1 nm = lstI (W.1.map (·.1)) nm := fi_lst k4 nm
    have e2 : (enW W.1 W.2.1 W.2.2.1 w).2.1 nm = lstI (W.2.1.map (·.1)) nm := fi_lst q4 nm
    have e3 : (enW W.1 W.2.1 W.2.2.1 w).2.2.1 nm = lstI W.2.2.1 nm := fi_lst l4 nm
    unfold toE
    rw [e1, e2, e3]
  rw [te] at k
  have n1 := idx_nn (o := lstI (W.1.map (·.1)) nm) (fun j hj => by have := lstI_lt hj; omega)
  have n2 := idx_nn (o := lstI (W.2.1.map (·.1)) nm) (fun j hj => by have := lstI_lt hj; omega)
  have n3 := idx_nn (o := lstI W.2.2.1 nm) (fun j hj => by have := lstI_lt hj; omega)
  refine T_X11_isTold_0 fx (cl_findN (s := 0) (o := 0) (ns := W.1.map (·.1)) fx xJ_0.1 (by decide) (by rw [ek]; exact k1) (by omega) k3 hn ⟨fun z => ?_, fun z => cl_findN (s := 1) (o := 24) (ns := W.2.1.map (·.1)) fx xJ_0.2.1 (by decide) (by rw [eq]; exact q1) (by omega) q3 hn ⟨fun z2 => ?_, fun z2 => cl_findN (s := 2) (o := 48) (ns := W.2.2.1) fx xJ_0.2.2.1 (by decide) l1 (by omega) l3 hn ⟨fun z3 => ?_, fun z3 => ?_⟩⟩⟩)
  · rw [n1.mp z] at k
    exact k
  · rw [n2.mp z2, Bool.or_true] at k
    exact k
  · have z1 : (lstI (W.1.map (·.1)) nm).isSome = false := by
      cases h : (lstI (W.1.map (·.1)) nm).isSome with
      | false => rfl
      | true => exact absurd (n1.mpr h) z
    have z2' : (lstI (W.2.1.map (·.1)) nm).isSome = false := by
      cases h : (lstI (W.2.1.map (·.1)) nm).isSome with
      | false => rfl
      | true => exact absurd (n2.mpr h) z2
    have z3' : (lstI W.2.2.1 nm).isSome = false := by
      cases h : (lstI W.2.2.1 nm).isSome with
      | false => rfl
      | true => exact absurd z3 (Int32.not_lt.mpr (n3.mpr h))
    rw [z1, z2', z3'] at k
    exact k
  · have z3' : (lstI W.2.2.1 nm).isSome = true := n3.mp (Int32.not_lt.mp z3)
    rw [z3', Bool.or_true] at k
    exact k
theorem h_toldX {a b : Int64} (hB : HB t n N B C W σ) (k : ∀ v : Int32, K (.inl (some (.int v))) σ) : C_X11_isTold_0 Z (d + 2) σ a b K := by
  obtain ⟨fx, -, -, -, -, -, ⟨k1, k2, -⟩, ⟨q1, q2, -⟩, ⟨l1, l2, -⟩⟩ := hB
  exact T_X11_isTold_0 fx (cl_findX (s := 0) (o := 0) fx xJ_0.1 (by decide) k1 (by omega) (fun v _ _ => ⟨fun _ => k 1, fun _ => cl_findX (s := 1) (o := 24) fx xJ_0.2.1 (by decide) q1 (by omega) (fun v _ _ => ⟨fun _ => k 1, fun _ => cl_findX (s := 2) (o := 48) fx xJ_0.2.2.1 (by decide) l1 (by omega) (fun v _ _ => ⟨fun _ => k 0, fun _ => k 1⟩)⟩)⟩))
end NEW
section NEW2
variable (t : Nat → Int32) (n : Nat)
/-- a new name: told already, no room -/
def hnw (env : Env) (len most : Nat) (R : HR) : HR := hbd R fun p es => if tyS t n p = 2 then .inr (nxS t n p, es ++ nmE t n env p (len = most)) else .inl p
end NEW2
section NEW3
variable {Z : zT} {d : Nat} {t : Nat → Int32} {n N : Nat} {B : Nat × Nat × Nat × Nat × Nat} {C : Nat × Nat × Nat × Nat} {W : Wld} {σ τ υ : Sg} {K : kS} {vs : List (List Int32)} {R : HR}
theorem h_new {s len most : Nat} {w : Int} (hs : s < 4) (hx : xJ0 1 (Int32.ofNat s) (Int32.ofNat most)) (hl : ∀ τ, HB t n N B C W τ → τ.i 28 s = Int32.ofNat len) (hm : len ≤ most ∧ most ≤ 100) (hB : HB t n N B C W σ) (h : BdS t n N vs R σ) (k : ∀ τ, HdF σ τ → BdS t n N vs (hnw t n (enW W.1 W.2.1 W.2.2.1 w) len most R) τ → K (.inl (some (.int (σ.i 40 3)))) τ) : C_X7_takeNewName_0 Z (d + 3) σ (Int32.ofNat s) K := by
  obtain ⟨i, i1, i2, i3, i4⟩ := h.pos hB
  rw [i2] at k
  refine T_X7_takeNewName_0 hB.1 (h_take (y := 2) (by decide) hB h (fun τ g1 hτ => ?_))
  have hB1 := hB.hd g1
  have hB1' := hB1
  obtain ⟨fx, sa, ss, ⟨nn, hN1⟩, -⟩ := hB1'
  have hc := sa.2.2.2.2.2.2.2.2.2
  rw [i2]
  refine ⟨_, sa.2.2.1.1, _, sa.2.2.1.2, ?_⟩
  rw [oN_t (by omega), (ss.2.1 i i1).2.2.1]
  refine ⟨ib_oN (by omega) (by omega), _, sa.2.2.2.1.1, _, sa.2.2.2.1.2, ib_oN (by omega) (by omega), ?_⟩
  rw [(ss.2.1 i i1).2.2.2]
  -- is there room
  have full : ∀ (R' : HR) (υ : Sg), HdF σ υ → BdS t n N vs R' υ → (∀ x, HdF σ x → BdS t n N vs (hev (if len = most then [(sgP t n i, 7)] else []) R') x → K (.inl (some (.int (Int32.ofNat i)))) x) → C_X7_takeNewName_44 Z (d + 3) υ (Int32.ofNat s) (Int32.ofNat i) K := fun R' υ gυ hυ kk => by
    have hBu := hB.hd gυ
    refine T_X7_takeNewName_44 hBu.1 (T_X11_isFull_0 hBu.1 ⟨ib_oN hs (by decide), _, hx, ?_⟩)
    rw [oN_t (by omega), hl υ hBu, oN_lt (by omega) (by omega)]
    refine ⟨fun z => ⟨fun _ => kk υ gυ ?_, fun y => absurd rfl y⟩, fun z => ⟨fun y => absurd y (by decide), fun _ => h_break (rule := 7) hBu hυ i1 (by decide) (fun x gx hx' => kk x (gυ.tr gx) ?_)⟩⟩
    · rw [if_neg (by omega)]
      rcases R' with q | ⟨p, es⟩
      · exact hυ
      · unfold hev hbd
        dsimp only
        rw [List.append_nil]
        exact hυ
    · rw [if_pos (by omega)]
      exact hx'
  rcases R with q | ⟨p, es⟩
  · refine h_toldX hB1 (fun v => ⟨fun _ => full (.inl q) τ g1 hτ (fun x gx hx' => k x gx hx'), fun _ => h_break (rule := 2) hB1 hτ i1 (by decide) (fun υ gυ hυ => full (.inl q) υ (g1.tr gυ) hυ (fun x gx hx' => k x gx hx'))⟩)
  · have e := i4 p es rfl
    by_cases z : tyS t n p = 2
    · have et : htk t n 2 (.inr (p, es)) = .inr (nxS t n p, es) := by
        unfold htk hbd
        exact if_pos z
      have en : hnw t n (enW W.1 W.2.1 W.2.2.1 w) len most (.inr (p, es)) = .inr (nxS t n p, es ++ nmE t n (enW W.1 W.2.1 W.2.2.1 w) p (len = most)) := by
        unfold hnw hbd
        exact if_pos z
      rw [et] at hτ
      rw [en] at k
      have hh : hdS t n (sgP t n i) = nmH (nmS t n p) := by
        unfold hdS
        rw [e, if_pos (Or.inl z)]
      have ht : tlS t n (sgP t n i) = nmT (nmS t n p) := by
        unfold tlS
        rw [e, if_pos (Or.inl z)]
      rw [hh, ht]
      rw [e] at full
      unfold nmE at k
      refine h_told (w := w) hB1 (nm_ok z) ?_
      by_cases y : toE (enW W.1 W.2.1 W.2.2.1 w) (nmS t n p) = true
      · rw [if_pos y] at k ⊢
        refine ⟨fun q => absurd q (by decide), fun _ => h_break (rule := 2) hB1 hτ i1 (by decide) (fun υ gυ hυ => full _ υ (g1.tr gυ) hυ (fun x gx hx' => k x gx ?_))⟩
        rw [e] at hx'
        rw [← List.append_assoc]
        exact hx'
      · rw [if_neg y] at k ⊢
        refine ⟨fun _ => full _ τ g1 hτ (fun x gx hx' => k x gx ?_), fun q => absurd rfl q⟩
        exact hx'
    · have et : htk t n 2 (.inr (p, es)) = .inl p := by
        unfold htk hbd
        exact if_neg z
      have en : hnw t n (enW W.1 W.2.1 W.2.2.1 w) len most (.inr (p, es)) = .inl p := by
        unfold hnw hbd
        exact if_neg z
      rw [et] at hτ
      rw [en] at k
      refine h_toldX hB1 (fun v => ⟨fun _ => full (.inl p) τ g1 hτ (fun x gx hx' => k x gx hx'), fun _ => h_break (rule := 2) hB1 hτ i1 (by decide) (fun υ gυ hυ => full (.inl p) υ (g1.tr gυ) hυ (fun x gx hx' => k x gx hx'))⟩)
def clI : HR → Int32
  | .inl _ => 0
  | .inr (_, es) => if es = [] then 1 else 0
/-- nothing is wrong so far -/
theorem h_clean (hB : HB t n N B C W σ) (h : BdS t n N vs R σ) (k : K (.inl (some (.int (clI R)))) σ) : C_X7_isClean_0 Z (d + 1) σ K := by
  refine T_X7_isClean_0 hB.1 ?_
  rcases R with q | ⟨p, es⟩
  · have e4 := h.1.2.1
    have := h.1.2.2
    have := hB.2.2.2.1.1
    rw [e4]
    refine ⟨fun _ => k, fun y => absurd ?_ y⟩
    rw [show (0 : Int32) = Int32.ofNat 0 from rfl, oN_le (by decide) (by omega)]
    exact Nat.zero_le _
  · obtain ⟨⟨-, h4⟩, -, ru, he⟩ := h
    rw [h4]
    have k : K (.inl (some (.int (if es = [] then 1 else 0)))) σ := k
    refine ⟨fun y => absurd y (by decide), fun _ => ?_⟩
    unfold RuC at ru
    cases hl : lsE es with
    | none =>
      rw [hl] at ru
      rw [ru.2]
      have en : es = [] := by
        cases es with
        | nil => rfl
        | cons x r =>
          obtain ⟨v, v1, -⟩ := lsE_le _ (x :: r) rfl x List.mem_cons_self
          rw [hl] at v1
          cases v1
      rw [if_pos en] at k
      exact ⟨fun y => absurd rfl y, fun _ => k⟩
    | some v =>
      rw [hl] at ru
      have hm := lsE_mem es v hl
      have hv := he v hm
      have en : es ≠ [] := fun y => by
        rw [y] at hm
        cases hm
      rw [if_neg en] at k
      rw [ru.2]
      refine ⟨fun _ => k, fun y => absurd y ?_⟩
      intro y
      have := (oN_eq (b := 0) (by omega) (by decide)).mp y
      omega
end NEW3

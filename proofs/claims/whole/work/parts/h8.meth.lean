/-! THE CLASS: a method read; role, layer, test -/
/-- only row x of the methods is written -/
def MrF (m x : Nat) (σ τ : Sg) : Prop := MdF m σ τ ∧ (∀ a, 11 ≤ a → a ≤ 21 → a ≠ x → τ.i a = σ.i a) ∧ (τ.l 22 = σ.l 22 ∧ τ.l 23 = σ.l 23) ∧ ∀ j, 7 ≤ j → τ.i 40 j = σ.i 40 j
section MET
variable {Z : zT} {d : Nat} {t : Nat → Int32} {n N m : Nat} {B : Nat × Nat × Nat × Nat × Nat} {C : Nat × Nat × Nat × Nat} {W : Wld} {σ τ υ : Sg} {K : kS} {vs : List (List Int32)} {R : HR} {x : Nat}
theorem MrF.tr (h : MrF m x σ τ) (g : MrF m x τ υ) : MrF m x σ υ := ⟨h.1.tr g.1, fun a q1 q2 q3 => (g.2.1 a q1 q2 q3).trans (h.2.1 a q1 q2 q3), ⟨g.2.2.1.1.trans h.2.2.1.1, g.2.2.1.2.trans h.2.2.1.2⟩, fun j q => (g.2.2.2 j q).trans (h.2.2.2 j q)⟩
theorem HdF.mr (m x : Nat) (h : HdF σ τ) : MrF m x σ τ := ⟨h.md m, fun a q1 q2 _ => funext fun j => h.2.2.1 a j (by omega) (by omega), ⟨funext fun j => h.2.2.2 22 j (by omega), funext fun j => h.2.2.2 23 j (by omega)⟩, fun j q => h.2.2.1 40 j (by omega) (by omega)⟩
theorem MrF.wi {v : Int32} (hx : x = 11 ∨ x = 12 ∨ x = 13 ∨ x = 14) : MrF m x σ (σ.wi x m v) := ⟨MdF.wi (by unfold mdI; omega), fun a _ _ q => wi_row q, ⟨rfl, rfl⟩, fun j _ => wi_ne (by omega)⟩
theorem rlO_eq (y : Nat) : rlO y = if 25 ≤ y ∧ y ≤ 27 then y - 24 else 0 := by
  unfold rlO
  by_cases h : 25 ≤ y ∧ y ≤ 27
  · rw [if_pos h]
    have : y = 25 ∨ y = 26 ∨ y = 27 := by omega
    rcases this with rfl | rfl | rfl <;> rfl
  · rw [if_neg h, if_neg (by omega), if_neg (by omega), if_neg (by omega)]
/-- the role -/
def hro (t : Nat → Int32) (n : Nat) (R : HR) : HR := hbd R fun p es => .inr (if rlO (tyS t n p) = 0 then p else nxS t n p, es)
/-- readMethod from its SPECs' end on, to the layer -/
def RoP (Z : zT) (d m : Nat) (l3 : Int32) (K : kS) (τ3 : Sg) : Prop := C_X7_sign_0 Z d τ3 (yI K fun v7 τ5 => (v7 < 25 → C_X7_readMethod_111 Z (d + 1) τ5 (Int32.ofNat m) l3 K) ∧ (¬ v7 < 25 → C_X7_sign_0 Z d τ5 (yI K fun v10 τ8 => (27 < v10 → C_X7_readMethod_111 Z (d + 1) τ8 (Int32.ofNat m) l3 K) ∧ (¬ 27 < v10 → C_X7_sign_0 Z d τ8 (yI K fun v13 τ11 => ib (Int32.ofNat m) 122 ∧ (C_X7_sign_0 Z d (τ11.wi 12 (Int32.ofNat m).toNatClampNeg (((1 : Int32) + v13) - (25 : Int32))) (yI K fun v17 τ15 => C_X7_take_0 Z d τ15 v17 (yN K fun τ18 => C_X7_readMethod_111 Z (d + 1) τ18 (Int32.ofNat m) l3 K))))))))
theorem md_role {l3 : Int32} (hm : m < 122) (hC : C.2.1 = 25 ∨ 102 ≤ C.2.1) (hB : HB t n N B C W σ) (h : BdS t n N vs R σ) (h12 : σ.i 12 m = 0) (k : ∀ τ, MrF m 12 σ τ → BdS t n N vs (hro t n R) τ → (∀ p es, R = .inr (p, es) → τ.i 12 m = Int32.ofNat (rlO (tyS t n p))) → C_X7_readMethod_111 Z (d + 2) τ (Int32.ofNat m) l3 K) : RoP Z (d + 1) m l3 K σ := by
  have tb := hsg_b (t := t) (n := n) R
  have no : ¬ (25 ≤ hsg t n R ∧ hsg t n R ≤ 27) → C_X7_readMethod_111 Z (d + 2) σ (Int32.ofNat m) l3 K := fun z => by
    refine k σ ((HdF.refl σ).mr m 12) ?_ (fun p es e => ?_)
    · rcases R with q | ⟨p, es⟩
      · exact h
      · have z : ¬ (25 ≤ tyS t n p ∧ tyS t n p ≤ 27) := z
        have e : hro t n (.inr (p, es)) = .inr (p, es) := by
          show Sum.inr (if rlO (tyS t n p) = 0 then p else nxS t n p, es) = _
          rw [rlO_eq, if_neg z, if_pos rfl]
        rw [e]
        exact h
    · subst e
      have z : ¬ (25 ≤ tyS t n p ∧ tyS t n p ≤ 27) := z
      rw [rlO_eq, if_neg z]
      exact h12
  refine h_sign hB h ?_
  show (Int32.ofNat (hsg t n R) < Int32.ofNat 25 → _) ∧ (¬ Int32.ofNat (hsg t n R) < Int32.ofNat 25 → _)
  rw [oN_lt (by omega) (by decide)]
  refine ⟨fun z => no (by omega), fun z => h_sign hB h ?_⟩
  show (Int32.ofNat 27 < Int32.ofNat (hsg t n R) → _) ∧ (¬ Int32.ofNat 27 < Int32.ofNat (hsg t n R) → _)
  rw [oN_lt (by decide) (by omega)]
  refine ⟨fun z2 => no (by omega), fun z2 => h_sign hB h ⟨ib_oN hm (by decide), ?_⟩⟩
  rcases R with q | ⟨p, es⟩
  · have z : ¬ 0 < 25 := z
    omega
  · have z : ¬ tyS t n p < 25 := z
    have z2 : ¬ 27 < tyS t n p := z2
    have ev : (1 : Int32) + Int32.ofNat (hsg t n (.inr (p, es))) - 25 = Int32.ofNat (tyS t n p - 24) := by
      show Int32.ofNat 1 + Int32.ofNat (tyS t n p) - Int32.ofNat 25 = _
      rw [oN_add, oN_sb (by omega)]
      congr 1
      omega
    rw [oN_t (by omega), ev]
    have f0 : MrF m 12 σ (σ.wi 12 m (Int32.ofNat (tyS t n p - 24))) := MrF.wi (by omega)
    have hB0 := hB.md f0.1 hC
    have b0 : BdS t n N vs (.inr (p, es)) (σ.wi 12 m (Int32.ofNat (tyS t n p - 24))) := h.wi (by decide) (by decide)
    refine h_sign hB0 b0 (h_take (y := tyS t n p) (by omega) hB0 b0 (fun τ1 f1 b1 => k τ1 (f0.tr (f1.mr m 12)) ?_ (fun p' es' e => ?_)))
    · have e1 : htk t n (tyS t n p) (.inr (p, es)) = .inr (nxS t n p, es) := if_pos rfl
      rw [e1] at b1
      have e : hro t n (.inr (p, es)) = .inr (nxS t n p, es) := by
        have e0 : rlO (tyS t n p) = tyS t n p - 24 := by rw [rlO_eq, if_pos ⟨by omega, by omega⟩]
        show Sum.inr (if rlO (tyS t n p) = 0 then p else nxS t n p, es) = _
        rw [e0, if_neg (by omega)]
      rw [e]
      exact b1
    · cases e
      rw [f1.2.2.1 12 m (by omega) (by omega), wi_eq, rlO_eq, if_pos (by omega)]
/-- the layer -/
def hin (t : Nat → Int32) (n : Nat) (env : Env) (R : HR) : HR := hbd R fun p es => match pIn t n env p with
  | .inl q => .inl q
  | .inr (p1, e1, _) => .inr (p1, es ++ e1)
theorem md_111 {l3 : Int32} {w : Int} (hm : m < 122) (hC : C.2.1 = 25 ∨ 102 ≤ C.2.1) (hB : HB t n N B C W σ) (h : BdS t n N vs R σ) (h13 : σ.i 13 m = -1) (k : ∀ τ, MrF m 13 σ τ → BdS t n N vs (hin t n (enW W.1 W.2.1 W.2.2.1 w) R) τ → (∀ p es p1 ly, R = .inr (p, es) → pIn t n (enW W.1 W.2.1 W.2.2.1 w) p = .inr (p1, [], ly) → τ.i 13 m = Int32.ofInt ly) → C_X7_readMethod_137 Z (d + 3) τ (Int32.ofNat m) l3 K) : C_X7_readMethod_111 Z (d + 3) σ (Int32.ofNat m) l3 K := by
  have tb := hsg_b (t := t) (n := n) R
  refine T_X7_readMethod_111 hB.1 (h_sign hB h ?_)
  show (¬ Int32.ofNat (hsg t n R) = Int32.ofNat 28 → _) ∧ (Int32.ofNat (hsg t n R) = Int32.ofNat 28 → _)
  rw [oN_eq (by omega) (by decide)]
  refine ⟨fun z => k σ ((HdF.refl σ).mr m 13) ?_ (fun p es p1 ly e e2 => ?_), fun z => ?_⟩
  · rcases R with q | ⟨p, es⟩
    · exact h
    · have z : ¬ tyS t n p = 28 := z
      have e : hin t n (enW W.1 W.2.1 W.2.2.1 w) (.inr (p, es)) = .inr (p, es) := by
        unfold hin hbd pIn
        dsimp only
        rw [if_neg z]
        dsimp only
        rw [List.append_nil]
      rw [e]
      exact h
  · subst e
    have z : ¬ tyS t n p = 28 := z
    unfold pIn at e2
    rw [if_neg z] at e2
    have : (-1 : Int) = ly := congrArg (fun x => x.2.2) (Sum.inr.inj e2)
    rw [← this]
    exact h13
  · rcases R with q | ⟨p, es⟩
    · cases z
    · have z : tyS t n p = 28 := z
      refine h_take (y := 28) (by decide) hB h (fun τ1 f1 b1 => ?_)
      have e1 : htk t n 28 (.inr (p, es)) = .inr (nxS t n p, es) := if_pos z
      rw [e1] at b1
      have hB1 := hB.hd f1
      refine h_layer (w := w) hB1 b1 (fun τ2 v v1 v2 hv f2 b2 => ⟨ib_oN hm (by decide), ?_⟩)
      rw [oN_t (by omega)]
      have ep : pIn t n (enW W.1 W.2.1 W.2.2.1 w) p = if tyS t n (nxS t n p) = 2 then .inr (nxS t n (nxS t n p), (if (enW W.1 W.2.1 W.2.2.1 w).2.2.1 (nmS t n (nxS t n p)) = none then [(nxS t n p, 3)] else []), idx ((enW W.1 W.2.1 W.2.2.1 w).2.2.1 (nmS t n (nxS t n p)))) else .inl (nxS t n p) := by
        unfold pIn
        rw [if_pos z]
      refine k _ (((f1.tr f2).mr m 13).tr (MrF.wi (by omega))) ?_ (fun p' es' p1 ly e e2 => ?_)
      · have e : hin t n (enW W.1 W.2.1 W.2.2.1 w) (.inr (p, es)) = hkn t n (enW W.1 W.2.1 W.2.2.1 w).2.2.1 (.inr (nxS t n p, es)) := by
          unfold hin hkn hbd
          dsimp only
          rw [ep]
          by_cases y : tyS t n (nxS t n p) = 2
          · rw [if_pos y, if_pos y]
          · rw [if_neg y, if_neg y]
        rw [e]
        exact b2.wi (by decide) (by decide)
      · cases e
        rw [wi_eq]
        rw [ep] at e2
        by_cases y : tyS t n (nxS t n p) = 2
        · rw [if_pos y] at e2
          have : idx ((enW W.1 W.2.1 W.2.2.1 w).2.2.1 (nmS t n (nxS t n p))) = ly := congrArg (fun x => x.2.2) (Sum.inr.inj e2)
          rw [← this, hv _ _ rfl y]
        · rw [if_neg y] at e2
          cases e2
/-- the test, in the heap -/
def TsC (m : Nat) (x : Ast) (σ : Sg) : Prop := σ.i 18 m = Int32.ofNat (lfN x) ∧ lfN x ≤ 6 ∧ (lvT x).length = lfN x ∧ (∀ (j : Nat) l, (lvT x)[j]? = some l → LfC σ (6 * m + j) l) ∧ σ.l 23 m = ttA x 0
/-- what reading a test writes of the methods -/
def TzF (m : Nat) (σ τ : Sg) : Prop := MdF m σ τ ∧ (∀ a, 11 ≤ a → a ≤ 17 → τ.i a = σ.i a) ∧ ∀ j, 7 ≤ j → j ≤ 9 → τ.i 40 j = σ.i 40 j
theorem md_137 {l3 : Int32} {w : Int} (hm : m < 122) (hd : 33 ≤ d) (hv : vs.length ≤ 16) (hj : ∀ p es, R = .inr (p, es) → ∀ nm ∈ vs, nm ≠ []) (hC : C.2.1 = 25 ∨ 102 ≤ C.2.1) (hB : HB t n N B C W σ) (h : BdS t n N vs R σ) (h18 : σ.i 18 m = 0) (h23 : σ.l 23 m = -1) (kd : ∀ τ q, (R = .inl q ∨ ∃ p es, R = .inr (p, es) ∧ pIf t n (enW W.1 W.2.1 W.2.2.1 w) vs p = .inl q) → TzF m σ τ → BdS t n N vs (.inl q) τ → C_X7_readMethod_169 Z (d + 1) τ (Int32.ofNat m) l3 K) (kl : ∀ τ p es p' c' es' x, R = .inr (p, es) → pIf t n (enW W.1 W.2.1 W.2.2.1 w) vs p = .inr (p', c', es', x) → TzF m σ τ → BdS t n N vs (.inr (p', es ++ es')) τ → (es ++ es' = [] → TsC m x τ ∧ c' = lfN x) → C_X7_readMethod_169 Z (d + 1) τ (Int32.ofNat m) l3 K) : C_X7_readMethod_137 Z (d + 1) σ (Int32.ofNat m) l3 K := by
  obtain ⟨e, rfl⟩ : ∃ e, d = e + 2 := ⟨d - 2, by omega⟩
  have tb := hsg_b (t := t) (n := n) R
  refine T_X7_readMethod_137 hB.1 (h_sign hB h ?_)
  show (¬ Int32.ofNat (hsg t n R) = Int32.ofNat 29 → _) ∧ (Int32.ofNat (hsg t n R) = Int32.ofNat 29 → _)
  rw [oN_eq (by omega) (by decide)]
  have tz0 : TzF m σ σ := ⟨MdF.refl _ _, fun _ _ _ => rfl, fun _ _ _ => rfl⟩
  refine ⟨fun z => ?_, fun z => ?_⟩
  · rcases R with q | ⟨p, es⟩
    · exact kd σ q (Or.inl rfl) tz0 h
    · have z : ¬ tyS t n p = 29 := z
      refine kl σ p es p 0 [] .nil rfl (if_neg z) tz0 (by rw [List.append_nil]; exact h) (fun _ => ⟨⟨h18, Nat.zero_le _, rfl, fun j l hl => (by cases hl), h23⟩, rfl⟩)
  · rcases R with q | ⟨p, es⟩
    · cases z
    · have z : tyS t n p = 29 := z
      have ep : pIf t n (enW W.1 W.2.1 W.2.2.1 w) vs p = pTt t n (pTs t n (enW W.1 W.2.1 W.2.2.1 w) 12) vs (nxS t n p) 0 := if_pos z
      have kl : ∀ τ p' c' es' x, pTt t n (pTs t n (enW W.1 W.2.1 W.2.2.1 w) 12) vs (nxS t n p) 0 = .inr (p', c', es', x) → TzF m σ τ → BdS t n N vs (.inr (p', es ++ es')) τ → (es ++ es' = [] → TsC m x τ ∧ c' = lfN x) → C_X7_readMethod_169 Z (e + 3) τ (Int32.ofNat m) l3 K := fun τ p' c' es' x h1 => kl τ p es p' c' es' x rfl (by rw [ep]; exact h1)
      have kd : ∀ τ q, pTt t n (pTs t n (enW W.1 W.2.1 W.2.2.1 w) 12) vs (nxS t n p) 0 = .inl q → TzF m σ τ → BdS t n N vs (.inl q) τ → C_X7_readMethod_169 Z (e + 3) τ (Int32.ofNat m) l3 K := fun τ q h1 h2 h3 => kd τ q (Or.inr ⟨p, es, rfl, by rw [ep]; exact h1⟩) h2 h3
      refine h_take (y := 29) (by decide) hB h (fun τ1 f1 b1 => ?_)
      have e1 : htk t n 29 (.inr (p, es)) = .inr (nxS t n p, es) := if_pos z
      rw [e1] at b1
      have hB1 := hB.hd f1
      have fw : TtF m τ1 (τ1.wi 40 10 0) := ⟨MdF.wi (Or.inl ⟨rfl, by decide⟩), fun a q1 q2 => wi_row (by omega), rfl, fun j q1 q2 => wi_ne (by omega)⟩
      have hB2 := hB1.md fw.1 hC
      have Q : QS t n N m B C W vs (nxS t n p) 0 es [] (τ1.wi 40 10 0) := ⟨hB2, b1.w40 (by decide), ⟨0, Nat.zero_le _, (wi_ne (by omega)).trans ((f1.2.2.1 18 m (by omega) (by omega)).trans h18), fun _ => ⟨rfl, fun j l hl => by cases hl⟩⟩, wi_eq, Nat.zero_le _, fun _ => ⟨rfl, by decide⟩, fun q => by omega⟩
      have ff : TtF m σ (τ1.wi 40 10 0) := (f1.tt m).tr fw
      have hs := fol_ts (Z := Z) (t := t) (n := n) (N := N) (B := B) (C := C) (W := W) (w := w) hm hv (hj p es rfl) hC 12 1 (e + 1) (by omega) (by omega)
      refine fol_tt (d := e) (l2 := 0) hs (ev_ts 12) _ _ _ _ _ _ Q (fun τ2 v q e2 f2 D2 => ⟨ib_oN hm (by decide), ?_⟩) (fun τ2 v p' c' es' x e2 f2 Q2 hv' => ⟨ib_oN hm (by decide), ?_⟩)
      · rw [oN_t (by omega)]
        have f3 : TtF m σ τ2 := ff.tr f2
        exact kd _ q e2 ⟨f3.1.tr (MdF.wl (by unfold mdL; omega)), fun a q1 q2 => f3.2.1 a q1 q2, f3.2.2.2⟩ (D2.2.1.wl (by decide) (by decide))
      · rw [oN_t (by omega)]
        have f3 : TtF m σ τ2 := ff.tr f2
        refine kl _ p' c' es' x e2 ⟨f3.1.tr (MdF.wl (by unfold mdL; omega)), fun a q1 q2 => f3.2.1 a q1 q2, f3.2.2.2⟩ (Q2.2.1.wl (by decide) (by decide)) (fun zz => ?_)
        obtain ⟨v1, v2⟩ := hv' zz
        obtain ⟨-, -, ⟨y, y1, y2, y3⟩, -, -, c1, -⟩ := Q2
        obtain ⟨a1, a2⟩ := y3 zz
        obtain ⟨b1, b2⟩ := c1 zz
        rw [List.nil_append] at a1 a2 b1
        refine ⟨⟨?_, by omega, v2, fun j l hl => (a2 j l hl).keep ⟨rfl, rfl, rfl, wl_ne (by omega)⟩, ?_⟩, by omega⟩
        · show τ2.i 18 m = _
          rw [y2, a1, v2]
        · rw [wl_eq, v1]
          rfl
end MET

/-! THE CLASS: tests read -/
section TST
variable {Z : zT} {d : Nat} {t : Nat → Int32} {n N m : Nat} {B : Nat × Nat × Nat × Nat × Nat} {C : Nat × Nat × Nat × Nat} {W : Wld} {σ τ υ : Sg} {K : kS} {vs : List (List Int32)} {R : HR}
/-- where a test's reading stands: comparisons, events, tests so far -/
def QS (t : Nat → Int32) (n N m : Nat) (B : Nat × Nat × Nat × Nat × Nat) (C : Nat × Nat × Nat × Nat) (W : Wld) (vs : List (List Int32)) (p c : Nat) (es : Evs) (lv : List Ast) (σ : Sg) : Prop := HB t n N B C W σ ∧ BdS t n N vs (.inr (p, es)) σ ∧ TqS m es lv σ ∧ σ.i 40 10 = Int32.ofNat c ∧ c ≤ p ∧ (es = [] → c = lv.length ∧ c ≤ 6) ∧ (6 < c → ∃ e ∈ es, e.1 ≤ p)
def QD (t : Nat → Int32) (n N m : Nat) (B : Nat × Nat × Nat × Nat × Nat) (C : Nat × Nat × Nat × Nat) (W : Wld) (vs : List (List Int32)) (q : Nat) (σ : Sg) : Prop := HB t n N B C W σ ∧ BdS t n N vs (.inl q) σ ∧ ∃ es lv, TqS m es lv σ
/-- the run follows a pure reader of tests -/
def FolQ (t : Nat → Int32) (n N m : Nat) (B : Nat × Nat × Nat × Nat × Nat) (C : Nat × Nat × Nat × Nat) (W : Wld) (vs : List (List Int32)) (f : Pf) (call : Sg → kS → Prop) : Prop := ∀ p c es lv σ (K : kS), QS t n N m B C W vs p c es lv σ → (∀ τ (v : Int64) q, f vs p c = .inl q → TtF m σ τ → QD t n N m B C W vs q τ → K (.inl (some (.long v))) τ) → (∀ τ (v : Int64) p' c' es' x, f vs p c = .inr (p', c', es', x) → TtF m σ τ → QS t n N m B C W vs p' c' (es ++ es') (lv ++ lvT x) τ → (es ++ es' = [] → v = ttA x lv.length ∧ (lvT x).length = lfN x) → K (.inl (some (.long v))) τ) → call σ K
theorem ctE_c {c p : Nat} (h : c < 100000) : ctE c p = if c = 6 then [(p, 7)] else [] := by
  unfold ctE
  by_cases y : c = 6
  · rw [if_pos y, if_pos (by rw [y]; rfl)]
  · rw [if_neg y]
    exact if_neg (fun z => y ((oN_eq (b := 6) (by omega) (by decide)).mp z))
theorem cm_f {env : Env} {p c p' c' : Nat} {es' : Evs} {x : Ast} (h : pCm t n env vs p c = .inr (p', c', es', x)) : c' = c + 1 ∧ lvT x = [x] ∧ lfN x = 1 ∧ (∀ j, ttA x j = trN j) ∧ ∀ e ∈ ctE c p, e ∈ es' := by
  by_cases z : tyS t n p = 2 ∧ tyS t n (nxS t n p) = 33
  · unfold pCm at h
    rw [if_pos z.1, if_pos z.2] at h
    split at h
    · have h := Sum.inr.inj h
      have h1 := congrArg (fun x => x.2.1) h
      have h2 := congrArg (fun x => x.2.2.1) h
      have h3 := congrArg (fun x => x.2.2.2) h
      dsimp only at h1 h2 h3
      rw [← h1, ← h2, ← h3]
      exact ⟨rfl, rfl, rfl, fun j => rfl, fun e he => List.mem_append_left _ (List.mem_append_right _ he)⟩
    · cases h
  · rw [cm_tm z] at h
    split at h
    · cases h
    · split at h
      · split at h
        · cases h
        · have h := Sum.inr.inj h
          have h1 := congrArg (fun x => x.2.1) h
          have h2 := congrArg (fun x => x.2.2.1) h
          have h3 := congrArg (fun x => x.2.2.2) h
          dsimp only at h1 h2 h3
          rw [← h1, ← h2, ← h3]
          exact ⟨rfl, rfl, rfl, fun j => rfl, fun e he => List.mem_append_left _ (List.mem_append_right _ he)⟩
      · cases h
/-- a comparison -/
theorem fol_cm {w : Int} (hm : m < 122) (hv : vs.length ≤ 16) (hj : ∀ nm ∈ vs, nm ≠ []) (hC : C.2.1 = 25 ∨ 102 ≤ C.2.1) : FolQ t n N m B C W vs (pCm t n (enW W.1 W.2.1 W.2.2.1 w)) (fun σ K => C_X7_readComparison_0 Z (d + 4) σ (Int32.ofNat m) (yI K fun v9 τ7 => ∃ v10, xJ1 2 v9 v10 ∧ K (.inl (some (.long v10))) τ7)) := by
  intro p c es lv σ K ⟨hB, h, T, e10, hcp, hcl, h6⟩ kd kl
  have hp : p ≤ n := by
    obtain ⟨i, i1, i2, i3⟩ := h.1.1
    rw [← i3]
    exact sgP_le t n i
  have hn := hB.2.2.2.1.1
  obtain ⟨i, i1, i2, -, i4⟩ := h.pos hB
  have i4 := i4 _ _ rfl
  have ec := ctE_c (c := c) (p := p) (by omega)
  have fw : TtF m σ (σ.wi 40 10 (Int32.ofNat (c + 1))) := ⟨MdF.wi (Or.inl ⟨rfl, by decide⟩), fun a q1 q2 => wi_row (by omega), rfl, fun j q1 q2 => wi_ne (by omega)⟩
  have hB1 := hB.md fw.1 hC
  have b1 := h.w40 (k := 10) (v := Int32.ofNat (c + 1)) (by decide)
  -- from there on
  have go : ∀ σ1, TtF m σ σ1 → HB t n N B C W σ1 → BdS t n N vs (.inr (p, es ++ ctE c p)) σ1 → TqS m es lv σ1 → σ1.i 40 10 = Int32.ofNat (c + 1) → C_X7_readComparison_29 Z (d + 4) σ1 (Int32.ofNat m) (yI K fun v9 τ7 => ∃ v10, xJ1 2 v9 v10 ∧ K (.inl (some (.long v10))) τ7) := fun σ1 f1 hBs bs Ts es10 => by
    have lt6 : es ++ ctE c p = [] → lv.length < 6 := fun z => by
      obtain ⟨z1, z2⟩ := List.append_eq_nil_iff.mp z
      rw [ec] at z2
      have := ife_nil z2
      have := hcl z1
      omega
    refine cm_29 (w := w) hm hv hj hBs bs Ts lt6 (fun τ v q e v5 f b Tq => ⟨trN v, xJ_2 v (by omega), kd τ _ q e (f1.tr f) ⟨hBs.md f.1 hC, b, Tq⟩⟩) (fun τ v p' c' es' x e v5 hv' f b Tq c10 => ⟨trN v, xJ_2 v (by omega), kl τ _ p' c' es' x e (f1.tr f) ⟨hBs.md f.1 hC, b, Tq, ?_, ?_, fun z => ?_, fun z => ?_⟩ (fun z => ?_)⟩)
    all_goals
      obtain ⟨g1, g2⟩ := ev_cm (t := t) (n := n) (env := enW W.1 W.2.1 W.2.2.1 w) vs p c p' c' es' x e
      obtain ⟨f1, f2, f3, f4, f5⟩ := cm_f e
    · rw [f1, c10]
      exact es10
    · omega
    · obtain ⟨z1, z2⟩ := List.append_eq_nil_iff.mp z
      obtain ⟨a1, a2⟩ := hcl z1
      have : ¬ c = 6 := fun q => by
        have := f5 (p, 7) (by rw [ec, if_pos q]; exact List.mem_cons_self)
        rw [z2] at this
        cases this
      rw [f2, List.length_append, List.length_singleton]
      omega
    · by_cases q : c = 6
      · exact ⟨(p, 7), List.mem_append_right _ (f5 (p, 7) (by rw [ec, if_pos q]; exact List.mem_cons_self)), by show p ≤ p'; omega⟩
      · obtain ⟨e, e1, e2⟩ := h6 (by omega)
        exact ⟨e, List.mem_append_left _ e1, by omega⟩
    · rw [f4, f2, f3, hv' z]
      exact ⟨rfl, rfl⟩
  refine T_X7_readComparison_0 hB.1 ?_
  rw [e10, oN_1, show (6 : Int32) = Int32.ofNat 6 from rfl, oN_le (by omega) (by decide)]
  refine ⟨fun z => go _ fw hB1 ?_ T.w wi_eq, fun z => ?_⟩
  · rw [ec, if_neg (by omega), List.append_nil]
    exact b1
  · rw [i2]
    refine h_break (rule := 7) hB1 b1 i1 (by decide) (fun τ1 f1 b2 => go τ1 (fw.tr (f1.tt m)) (hB1.hd f1) ?_ (T.w.td f1.td) ?_)
    · rw [i4] at b2
      have b2 : BdS t n N vs (.inr (p, es ++ [(p, 7)])) τ1 := b2
      rw [ec]
      by_cases y : c = 6
      · rw [if_pos y]
        exact b2
      · rw [if_neg y, List.append_nil]
        obtain ⟨e, e1, e2⟩ := h6 (by omega)
        refine b2.abs ⟨e, e1, ?_⟩
        have := (h.2.2.2 e e1).2.2
        omega
    · exact (f1.2.2.1 40 10 (by omega) (by omega)).trans wi_eq
end TST

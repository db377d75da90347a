/-! THE CLASS: a wrong text goes back; the verdict -/
section BCK
variable {Z : zT} {d : Nat} {t : Nat → Int32} {n N : Nat} {B : Nat × Nat × Nat × Nat × Nat} {C : Nat × Nat × Nat × Nat} {W W0 : Wld} {σ τ υ : Sg} {K : kS} {vs : List (List Int32)} {R : HR}
theorem cp_ne {a0 sp a dp m b j : Nat} (h : ¬ (b = a ∧ dp ≤ j ∧ j < dp + m)) : (σ.cpI a0 sp a dp m).i b j = σ.i b j := if_neg h
theorem cp_at {a0 sp a dp m j : Nat} (h : dp ≤ j ∧ j < dp + m) : (σ.cpI a0 sp a dp m).i a j = σ.i a0 (sp + (j - dp)) := if_pos ⟨rfl, h⟩
/-- what there is to go back to -/
theorem cl_keepW (F : FX ΦC σ.sh σ.r) (k : ∀ τ, τ.sh = σ.sh → τ.l = σ.l → τ.r = σ.r → (∀ a j, a ≠ 39 → τ.i a j = σ.i a j) → (∀ j, j < 3 → τ.i 39 j = σ.i 28 j) → τ.i 39 3 = σ.i 10 0 → τ.i 39 4 = σ.i 24 3 → K (.inl none) τ) : C_X11_keep_0 Z (d + 1) σ K := by
  refine T_X11_keep_0 F ?_
  show K (.inl none) (((σ.cpI 28 0 39 0 3).wi 39 3 (σ.i 10 0)).wi 39 4 (σ.i 24 3))
  refine k _ rfl rfl rfl (fun a j q => (wi_ne (by omega)).trans ((wi_ne (by omega)).trans (cp_ne (by omega)))) (fun j q => (wi_ne (by omega)).trans ((wi_ne (by omega)).trans ((cp_at (by omega)).trans ?_))) ((wi_ne (by omega)).trans wi_eq) wi_eq
  rw [Nat.zero_add, Nat.sub_zero]
theorem pf_get {α : Type} {l l' : List α} (h : l <+: l') {k : Nat} {x : α} (hx : l[k]? = some x) : l'[k]? = some x := by
  obtain ⟨r, rfl⟩ := h
  rw [List.getElem?_append_left (List.getElem?_eq_some_iff.mp hx).1]
  exact hx
theorem NmS.pf {ns ns' : List (List Int32)} {o : Nat} (h : NmS ns' o σ) (p : ns <+: ns') : NmS ns o σ := fun k nm hk => h k nm (pf_get p hk)
/-- back to the world before the text -/
theorem cl_back {a A0 : Nat} (S : CWS t n N B C W a σ) (hP : PfW W0 W) (hWf : WfW W0) (k0 : σ.i 39 0 = Int32.ofNat W0.1.length) (k1 : σ.i 39 1 = Int32.ofNat W0.2.1.length) (k2 : σ.i 39 2 = Int32.ofNat W0.2.2.1.length) (k3 : σ.i 39 3 = Int32.ofNat W0.2.2.2.length) (k4 : σ.i 39 4 = Int32.ofNat A0) (hA : 902 ≤ A0 ∧ A0 < C.1) (hS : ∀ (m : Nat) x, W0.2.2.2[m]? = some x → ∃ S, σ.i 14 (m + 1) = Int32.ofNat S ∧ 902 ≤ S ∧ S + (cdB x.1.2.2.2.2.2.1 false S 0).length + 1 ≤ A0) (h : BdS t n N vs R σ) (k : ∀ υ, CWS t n N B C W0 A0 υ → BdS t n N vs R υ → υ.sh = σ.sh → υ.l = σ.l → υ.r = σ.r → (∀ a j, ¬ (a = 28 ∧ j < 3) → ¬ (a = 10 ∧ j = 0) → ¬ (a = 24 ∧ j = 3) → υ.i a j = σ.i a j) → K (.inl none) υ) : C_X11_goBack_0 Z (d + 1) σ K := by
  obtain ⟨hB, hK, hJ, hM, -⟩ := S
  refine T_X11_goBack_0 hB.1 ?_
  show K (.inl none) (((σ.cpI 39 0 28 0 3).wi 10 0 (σ.i 39 3)).wi 24 3 (σ.i 39 4))
  have gi : ∀ a j, ¬ (a = 28 ∧ j < 3) → ¬ (a = 10 ∧ j = 0) → ¬ (a = 24 ∧ j = 3) → (((σ.cpI 39 0 28 0 3).wi 10 0 (σ.i 39 3)).wi 24 3 (σ.i 39 4)).i a j = σ.i a j := fun a j q1 q2 q3 => (wi_ne q3).trans ((wi_ne q2).trans (cp_ne (by omega)))
  have g28 : ∀ j, j < 3 → (((σ.cpI 39 0 28 0 3).wi 10 0 (σ.i 39 3)).wi 24 3 (σ.i 39 4)).i 28 j = σ.i 39 j := fun j q => (wi_ne (by omega)).trans ((wi_ne (by omega)).trans ((cp_at (by omega)).trans (by rw [Nat.zero_add, Nat.sub_zero])))
  have g10 : (((σ.cpI 39 0 28 0 3).wi 10 0 (σ.i 39 3)).wi 24 3 (σ.i 39 4)).i 10 0 = σ.i 39 3 := (wi_ne (by omega)).trans wi_eq
  have g24 : (((σ.cpI 39 0 28 0 3).wi 10 0 (σ.i 39 3)).wi 24 3 (σ.i 39 4)).i 24 3 = σ.i 39 4 := wi_eq
  have hs : (((σ.cpI 39 0 28 0 3).wi 10 0 (σ.i 39 3)).wi 24 3 (σ.i 39 4)).sh = σ.sh := rfl
  have hl : (((σ.cpI 39 0 28 0 3).wi 10 0 (σ.i 39 3)).wi 24 3 (σ.i 39 4)).l = σ.l := rfl
  have hr : (((σ.cpI 39 0 28 0 3).wi 10 0 (σ.i 39 3)).wi 24 3 (σ.i 39 4)).r = σ.r := rfl
  generalize ((σ.cpI 39 0 28 0 3).wi 10 0 (σ.i 39 3)).wi 24 3 (σ.i 39 4) = υ at gi g28 g10 g24 hs hl hr ⊢
  obtain ⟨p1, p2, p3, p4⟩ := hP
  have q1 := p1.length_le
  have q2 := p2.length_le
  have q3 := p3.length_le
  have q4 := p4.length_le
  obtain ⟨f, sa, ss, hn', ca, ne, ⟨a1, a2, a3, a4, a5⟩, ⟨b1, b2, b3, b4, b5⟩, ⟨c1, c2, c3, c4⟩⟩ := hB
  have sa' := sa
  have ca' := ca
  obtain ⟨-, -, -, -, ⟨n1, n2⟩, e0, e1, e2, e3, hc⟩ := sa
  obtain ⟨-, -, -, -, y0, y1, y2, -⟩ := ca
  refine k υ ⟨⟨by rw [hs, hr]; exact f, by unfold SgA; rw [hs, hr]; exact sa', ss.keep (gi 41 4 (by omega) (by omega) (by omega)) (funext fun k => gi _ k (by omega) (by omega) (by omega)) (funext fun k => gi _ k (by omega) (by omega) (by omega)) (by rw [hl]) (by rw [hl]), hn', by unfold CoA; rw [hs, hr]; exact ca', ne, ⟨(g28 0 (by decide)).trans k0, by omega, ?_, a4.sublist (p1.map _).sublist, fun k x hx => (gi 3 k (by omega) (by omega) (by omega)).trans (a5 k x (pf_get p1 hx))⟩, ⟨(g28 1 (by decide)).trans k1, by omega, ?_, b4.sublist (p2.map _).sublist, fun k x hx => ⟨(gi 31 k (by omega) (by omega) (by omega)).trans (b5 k x (pf_get p2 hx)).1, (b5 k x (pf_get p2 hx)).2⟩⟩, ⟨(g28 2 (by decide)).trans k2, by omega, ?_, c4.sublist p3.sublist⟩⟩, ?_, ?_, ?_, hWf⟩ ?_ hs hl hr gi
  · exact (a3.keep (fun k _ => by rw [hl]; exact ⟨rfl, rfl⟩)).pf (p1.map _)
  · exact (b3.keep (fun k _ => by rw [hl]; exact ⟨rfl, rfl⟩)).pf (p2.map _)
  · exact (c3.keep (fun k _ => by rw [hl]; exact ⟨rfl, rfl⟩)).pf p3
  · have := hK.keep (τ := υ) a2 (fun k _ => ⟨gi 4 k (by omega) (by omega) (by omega), gi 5 k (by omega) (by omega) (by omega), fun w _ i _ => ⟨gi 7 _ (by omega) (by omega) (by omega), gi 8 _ (by omega) (by omega) (by omega)⟩⟩)
    exact fun k x hx => this k x (pf_get p1 hx)
  · have := hJ.keep (τ := υ) (fun k _ => ⟨gi 32 k (by omega) (by omega) (by omega), gi 33 k (by omega) (by omega) (by omega)⟩)
    exact fun k x hx => this k x (pf_get p2 hx)
  · obtain ⟨m1, m2, m3, ⟨m4, m5, m6⟩, mm⟩ := hM
    refine ⟨g10.trans k3, by omega, g24.trans k4, ⟨hA.1, hA.2, m6⟩, fun m x hx => ?_⟩
    obtain ⟨S, s1, s2, s3⟩ := hS m x hx
    obtain ⟨c1, c2, c3, c4, c5, S', s1', s2', s3', s4'⟩ := (mm m x (pf_get p4 hx)).keep (τ := υ) (C' := C) (u := 200) (by have := (List.getElem?_eq_some_iff.mp hx).1; omega) (Nat.le_refl _) (fun a j q => gi a j (by unfold mtI at q; omega) (by unfold mtI at q; omega) (by unfold mtI at q; omega)) (fun a j _ => by rw [hl]) (fun j _ => ⟨gi _ j (by omega) (by omega) (by omega), gi _ j (by omega) (by omega) (by omega), gi _ j (by omega) (by omega) (by omega)⟩)
    have cle := m6.le
    have e : S' = S := by
      rw [gi 14 (m + 1) (by omega) (by omega) (by omega), s1] at s1'
      exact ((oN_eq (by omega) (by omega)).mp s1').symm
    rw [e] at s1' s2' s4'
    exact ⟨c1, c2, c3, c4, c5, S, s1', s2, s3, s4'⟩
  · exact h.cg (fun j _ => gi 40 j (by omega) (by omega) (by omega)) (gi 28 3 (by omega) (by omega) (by omega)) (fun j => by rw [hl]; exact ⟨rfl, rfl⟩)
/-- where the text is wrong, and why -/
def vdP : HR → Int32
  | .inl q => Int32.ofNat q
  | .inr (_, es) => match lsE es with
    | none => -1
    | some w => Int32.ofNat w.1
def vdR : HR → Int32
  | .inl _ => 1
  | .inr (_, es) => match lsE es with
    | none => 0
    | some w => Int32.ofNat w.2
theorem cl_verdict (F : FX ΦC σ.sh σ.r) (hn : n ≤ 8192) (h : BdS t n N vs R σ) (k : K (.inl (some (.int (vdP R)))) (σ.wi 40 2 (vdR R))) : C_X7_verdict_0 Z (d + 1) σ K := by
  refine T_X7_verdict_0 F ?_
  rcases R with q | ⟨p, es⟩
  · have h4 := h.1.2.1
    have hq := h.1.2.2
    rw [h4]
    refine ⟨fun z => absurd z ?_, fun _ => k⟩
    rw [show (0 : Int32) = Int32.ofNat 0 from rfl, oN_lt (by omega) (by decide)]
    omega
  · have h4 := h.1.2
    have ru := h.2.2.1
    rw [h4]
    refine ⟨fun _ => ?_, fun z => absurd (by decide) z⟩
    unfold RuC at ru
    unfold vdP vdR at k
    dsimp only at k
    cases hl : lsE es with
    | none =>
      rw [hl] at ru k
      rw [ru.1, ru.2]
      exact k
    | some w =>
      rw [hl] at ru k
      rw [ru.1, ru.2]
      exact k
end BCK

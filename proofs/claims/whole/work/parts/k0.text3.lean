/-! THE CLASS: a text read, whole -/
/-- what reading a text, or a program, leaves -/
def TeF (B B' : Nat × Nat × Nat × Nat × Nat) (C C' : Nat × Nat × Nat × Nat) (σ τ : Sg) : Prop := (∃ dyn, τ.sh = σ.sh ++ dyn) ∧ (∀ b j, b < σ.sh.length → b ≠ 24 → ¬ (b = 41 ∧ j ≤ 3) → τ.r b j = σ.r b j) ∧ (∀ b j, b < σ.sh.length → (46 ≤ b ∨ b = 0 ∨ (b = 1 ∧ j = 15)) → b ≠ B.2.1 → b ≠ B.2.2.1 → b ≠ C.2.1 → b ≠ C.2.2.1 → b ≠ C.2.2.2 → τ.i b j = σ.i b j) ∧ (∀ b j, b < σ.sh.length → (46 ≤ b ∨ b = 0) → b ≠ B.2.2.2.1 → b ≠ B.2.2.2.2 → τ.l b j = σ.l b j) ∧ ((B'.2.1 = B.2.1 ∨ σ.sh.length ≤ B'.2.1) ∧ (B'.2.2.1 = B.2.2.1 ∨ σ.sh.length ≤ B'.2.2.1) ∧ (B'.2.2.2.1 = B.2.2.2.1 ∨ σ.sh.length ≤ B'.2.2.2.1) ∧ (B'.2.2.2.2 = B.2.2.2.2 ∨ σ.sh.length ≤ B'.2.2.2.2)) ∧ ((C'.2.1 = C.2.1 ∨ σ.sh.length ≤ C'.2.1) ∧ (C'.2.2.1 = C.2.2.1 ∨ σ.sh.length ≤ C'.2.2.1) ∧ (C'.2.2.2 = C.2.2.2 ∨ σ.sh.length ≤ C'.2.2.2)) ∧ (szS τ.sh + 6 * C.1 + 8 * B.1 ≤ szS σ.sh + 6 * C'.1 + 8 * B'.1 ∧ 601 * τ.sh.length + C.1 + 38 * B.1 ≤ 601 * σ.sh.length + C'.1 + 38 * B'.1)
theorem sz_1 (s k : Nat) : szS [Sh.arr s k] = k := by
  unfold szS
  simp [slS]
section TX5
variable {Z : zT} {d : Nat} {t : Nat → Int32} {n N A m : Nat} {B B' : Nat × Nat × Nat × Nat × Nat} {C C' : Nat × Nat × Nat × Nat} {W : Wld} {σ τ υ : Sg} {K : kS} {a : Nat}
theorem TeF.tr {B2 : Nat × Nat × Nat × Nat × Nat} {C2 : Nat × Nat × Nat × Nat} (h : TeF B B' C C' σ τ) (g : TeF B' B2 C' C2 τ υ) : TeF B B2 C C2 σ υ := by
  obtain ⟨⟨d1, h1⟩, h2, h3, h4, ⟨h5, h6, h7, h8⟩, ⟨h9, h10, h11⟩, h12, h13⟩ := h
  obtain ⟨⟨d2, g1⟩, g2, g3, g4, ⟨g5, g6, g7, g8⟩, ⟨g9, g10, g11⟩, g12, g13⟩ := g
  have le : σ.sh.length ≤ τ.sh.length := by
    rw [h1, List.length_append]
    exact Nat.le_add_right ..
  have nb : ∀ {b x y : Nat}, (y = x ∨ σ.sh.length ≤ y) → b < σ.sh.length → b ≠ x → b ≠ y := fun q l n => by
    clear h5 h6 h7 h8 h9 h10 h11 g5 g6 g7 g8 g9 g10 g11
    omega
  have nt : ∀ {x y z : Nat}, (y = x ∨ σ.sh.length ≤ y) → (z = y ∨ τ.sh.length ≤ z) → (z = x ∨ σ.sh.length ≤ z) := fun q l => by
    clear h5 h6 h7 h8 h9 h10 h11 g5 g6 g7 g8 g9 g10 g11
    omega
  have sz : (szS υ.sh + 6 * C.1 + 8 * B.1 ≤ szS σ.sh + 6 * C2.1 + 8 * B2.1 ∧ 601 * υ.sh.length + C.1 + 38 * B.1 ≤ 601 * σ.sh.length + C2.1 + 38 * B2.1) := by
    clear h5 h6 h7 h8 h9 h10 h11 g5 g6 g7 g8 g9 g10 g11
    omega
  exact ⟨⟨d1 ++ d2, by rw [g1, h1, List.append_assoc]⟩, fun b j l q1 q2 => (g2 b j (Nat.lt_of_lt_of_le l le) q1 q2).trans (h2 b j l q1 q2), fun b j l q q1 q2 q3 q4 q5 => (g3 b j (Nat.lt_of_lt_of_le l le) q (nb h5 l q1) (nb h6 l q2) (nb h9 l q3) (nb h10 l q4) (nb h11 l q5)).trans (h3 b j l q q1 q2 q3 q4 q5), fun b j l q q1 q2 => (g4 b j (Nat.lt_of_lt_of_le l le) q (nb h7 l q1) (nb h8 l q2)).trans (h4 b j l q q1 q2), ⟨nt h5 g5, nt h6 g6, nt h7 g7, nt h8 g8⟩, ⟨nt h9 g9, nt h10 g10, nt h11 g11⟩, sz⟩
theorem CutR.te (g : CutR B B' σ τ) (hb : 64 ≤ B.1) (C : Nat × Nat × Nat × Nat) : TeF B B' C C σ τ := by
  obtain ⟨-, g3, g4, g5, g6⟩ := g
  refine ⟨?_, fun b j l q1 q2 => g6 b j l q2, fun b j l q q1 q2 _ _ _ => g4 b j l (by omega) q1 q2, fun b j l q q1 q2 => g5 b j l q1 q2, ?_, ⟨Or.inl rfl, Or.inl rfl, Or.inl rfl⟩, ?_⟩
  · rcases g3 with ⟨-, e⟩ | ⟨e, -⟩
    · exact ⟨[], by rw [e, List.append_nil]⟩
    · rw [e, List.append_assoc, List.append_assoc, List.append_assoc]
      exact ⟨_, rfl⟩
  · rcases g3 with ⟨e, -⟩ | ⟨-, -, e1, e2, e3, e4⟩
    · rw [e]
      exact ⟨Or.inl rfl, Or.inl rfl, Or.inl rfl, Or.inl rfl⟩
    · exact ⟨Or.inr (by omega), Or.inr (by omega), Or.inr (by omega), Or.inr (by omega)⟩
  · rcases g3 with ⟨e1, e⟩ | ⟨e, l, -⟩
    · rw [e, e1]
      exact ⟨Nat.le_refl _, Nat.le_refl _⟩
    · rw [e, szS_app, szS_app, szS_app, szS_app, sz_1, sz_1, List.length_append, List.length_append, List.length_append, List.length_append]
      have l1 : ∀ s : Sh, ([s] : List Sh).length = 1 := fun _ => rfl
      rw [l1, l1]
      omega
theorem TxF.te {u : Nat} (g : TxF u C C' σ τ) (B : Nat × Nat × Nat × Nat × Nat) : TeF B B C C' σ τ := by
  obtain ⟨⟨g1, g2, g3, g4, g5⟩, ⟨r1, r2⟩, -⟩ := g
  exact ⟨g1, fun b j l q1 _ => by rw [g2 b l q1], fun b j l q _ _ q3 q4 q5 => by rw [g3 b l (by unfold rtI; omega) q3 q4 q5], fun b j l q _ _ => by rw [g4 b l (by omega) (by omega) (by omega) (by omega) (by omega)], ⟨Or.inl rfl, Or.inl rfl, Or.inl rfl, Or.inl rfl⟩, g5, by omega, by omega⟩
/-- a frame that makes nothing new -/
theorem TeF.sm (h1 : τ.sh = σ.sh) (h2 : τ.r = σ.r) (h3 : ∀ b j, 46 ≤ b ∨ b = 0 ∨ (b = 1 ∧ j = 15) → τ.i b j = σ.i b j) (h4 : ∀ b j, 46 ≤ b ∨ b = 0 → τ.l b j = σ.l b j) : TeF B B C C σ τ := ⟨⟨[], by rw [h1, List.append_nil]⟩, fun b j _ _ _ => by rw [h2], fun b j _ q _ _ _ _ _ => h3 b j q, fun b j _ q _ _ => h4 b j q, ⟨Or.inl rfl, Or.inl rfl, Or.inl rfl, Or.inl rfl⟩, ⟨Or.inl rfl, Or.inl rfl, Or.inl rfl⟩, by rw [h1]; omega, by rw [h1]; omega⟩
/-- the text's reading begins -/
theorem cl_begin (F : FX ΦC σ.sh σ.r) (k : ∀ τ, τ.sh = σ.sh → τ.l = σ.l → τ.r = σ.r → (∀ b j, ¬ (b = 40 ∧ 3 ≤ j ∧ j ≤ 6) → τ.i b j = σ.i b j) → τ.i 40 3 = 0 → τ.i 40 4 = -1 → τ.i 40 5 = -1 → τ.i 40 6 = 0 → K (.inl none) τ) : C_X7_begin_0 Z (d + 1) σ K := by
  refine T_X7_begin_0 F (k _ rfl rfl rfl (fun b j q => (wi_ne (by omega)).trans ((wi_ne (by omega)).trans ((wi_ne (by omega)).trans (wi_ne (by omega))))) ?_ ?_ ?_ wi_eq)
  · exact (wi_ne (by omega)).trans ((wi_ne (by omega)).trans ((wi_ne (by omega)).trans wi_eq))
  · exact (wi_ne (by omega)).trans ((wi_ne (by omega)).trans wi_eq)
  · exact (wi_ne (by omega)).trans wi_eq
theorem CWS.sk {a0 : Nat} (S : CWS t n N B C W a0 σ) : SkR C W a0 σ := by
  obtain ⟨h1, h2, h3, h4, h5⟩ := S
  obtain ⟨f, sa, ss, hn', ca, ne, ⟨a1, a2, a3, a4, a5⟩, ⟨b1, b2, b3, b4, b5⟩, -⟩ := h1
  exact ⟨f, ⟨a1, a2, a5⟩, h2, ⟨b2, b5⟩, h4, h5, ca.2.2.2.2.1, ca.2.2.2.2.2.1, ca.2.2.2.2.2.2.1⟩
theorem CRs.sk (S : CRs B C W a σ) : SkR C W a σ := by
  obtain ⟨h1, h2, h3, h4, h5, -⟩ := S
  obtain ⟨f, sa, ca, ne, ⟨a1, a2, a3, a4, a5⟩, ⟨b1, b2, b3, b4, b5⟩, -⟩ := h1
  exact ⟨f, ⟨a1, a2, a5⟩, h2, ⟨b2, b5⟩, h4, h5, ca.2.2.2.2.1, ca.2.2.2.2.2.1, ca.2.2.2.2.2.2.1⟩
/-- stock taken of what was read -/
theorem CWS.cr (S : CWS t n N B C W a σ) (hb : 64 ≤ B.1) (ha : a ≤ 902 + 901 * W.2.2.2.length) {x : Nat} (hx : x ≤ 16) (ex : σ.i 28 3 = Int32.ofNat x) (g : SkF σ τ) (st : StS W τ) : CRs B C W a τ := by
  obtain ⟨h1, h2, h3, h4, h5⟩ := S
  obtain ⟨g1, g2, g3, g4⟩ := g
  have hc := h1.hc
  have l24 := hc.2.2.2.2.1.2.1
  have y := hc.2.2.1.2.2.2.2
  have gi : ∀ b j, b ≠ 1 → b ≠ 38 → τ.i b j = σ.i b j := fun b j q1 q2 => g3 b j (by omega) q2
  refine ⟨hc.mv (B' := B) (C' := C) (by rw [g1, g2]; exact hc.1) (by unfold SgA; rw [g1, g2]; exact hc.2.1) (by unfold CoA; rw [g1, g2]; exact hc.2.2.1) hc.2.2.2.1 (fun b j q => gi b j (by omega) (by omega)) (fun b j q1 q2 => g4 b j (by omega)), h2.keep l24 (fun k _ => ⟨gi _ _ (by omega) (by omega), gi _ _ (by omega) (by omega), fun w _ i _ => ⟨gi _ _ (by omega) (by omega), gi _ _ (by omega) (by omega)⟩⟩), h3.keep (fun k _ => ⟨gi _ _ (by omega) (by omega), gi _ _ (by omega) (by omega)⟩), h4.keep (gi _ _ (by omega) (by omega)) ((gi _ _ (by omega) (by omega)).trans h4.2.2.1) ⟨Nat.le_refl _, h4.2.2.2.1.2⟩ (fun b j q => gi b j (by unfold mtI at q; omega) (by unfold mtI at q; omega)) (fun b j q => g4 b j (by unfold mtL at q; omega)) (fun j _ => ⟨gi _ j (by omega) (by omega), gi _ j (by omega) (by omega), gi _ j (by omega) (by omega)⟩), h5, st, ⟨hb, ha⟩, x, hx, (gi _ _ (by omega) (by omega)).trans ex⟩
/-- gone back: as before -/
theorem CWS.cb (S : CWS t n N B C W a σ) (hb : 64 ≤ B.1) (ha : a ≤ 902 + 901 * W.2.2.2.length) {x : Nat} (hx : x ≤ 16) (ex : σ.i 28 3 = Int32.ofNat x) (st : StS W σ) : CRs B C W a σ := S.cr hb ha hx ex (SkF.refl _) st
theorem BdS.nv {vs : List (List Int32)} {R : HR} (h : BdS t n N vs R σ) : ∃ x, x ≤ 16 ∧ σ.i 28 3 = Int32.ofNat x := by
  rcases R with q | ⟨p, es⟩
  · exact ⟨_, h.2.2, h.2.1⟩
  · exact ⟨_, h.2.1.2.1, h.2.1.1⟩
end TX5

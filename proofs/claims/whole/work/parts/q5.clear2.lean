/-! THE CLASS: clear -/
section CLEARC
variable {Z : zT} {d : Nat} {B : Nat × Nat × Nat × Nat × Nat} {C V V' : Nat × Nat × Nat × Nat} {a u u' A m ver a' : Nat} {W W' : Wld} {pg pg' : Ast} {t t' : Nat → Int32} {n n' wy ch ch' fuel fuel' rs : Nat} {rn rn' : Option (Rs × Es)} {res res' : List Nat} {q q' : Nat} {σ τ υ : Sg} {K : kS} {E : Nat → Prop} {S : Es} {e1 e2 : String}
/-- another program, or none -/
theorem ClX.pn (h : ClX B C V a u A m ver W pg t n wy ch fuel rs rn res q σ) (g : XF (fun b => b = 0) σ τ) (hn : n' ≤ n) (h9 : τ.i 0 9 = Int32.ofNat n') (h10 : τ.i 0 10 = σ.i 0 10) (h11 : τ.i 0 11 = σ.i 0 11) (h12 : τ.i 0 12 = σ.i 0 12) (h13 : τ.i 0 13 = (if pg'.isNil = true then 0 else 1)) (hp : pg'.isNil = false → (cdB pg' false 0 0).length + 1 ≤ 901 ∧ CdH 0 C.2.1 C.2.2.1 C.2.2.2 (cdB pg' false 0 0 ++ [(25, 0, 0)]) σ) : ClX B C V a u A m ver W pg' t n' wy ch fuel rs rn res q τ := by
  have F := h.fx
  have gk := g.kp
  obtain ⟨-, -, -, ⟨ne, wh⟩, -, -, ⟨-, -, tx, -⟩, ⟨c1, c2, -, -⟩, ⟨-, r1, r2⟩, -, rm⟩ := id h
  have sq := ne.sq
  obtain ⟨x1, x2, x3, x4, x5⟩ := tx.kp gk (by have := tx.2.2.2.2; omega)
  refine h.kp gk (fun b hb z => Or.inl z) ⟨ne.kp F gk (fun b _ z => by omega), wh.kp F gk (fun b _ z => by omega)⟩ ⟨⟨x1, ⟨by omega, by omega, x2.2.2⟩, fun k hk => x3 k (by omega), x4, x5⟩, h9⟩ ⟨⟨h11.trans c1.1, c1.2⟩, ⟨h12.trans c2.1, c2.2⟩, h13⟩ hp ⟨r1.kp F gk (fun b _ z => by omega), r2.kp F gk h10 (fun b _ z => by omega)⟩ (Nat.le_refl _) ?_
  rw [g.1, sdN_g (g.2.2 46 (by omega)).1]
  exact rm
theorem NmS.pre {ns ms : List (List Int32)} {o : Nat} (h : NmS (ns ++ ms) o σ) : NmS ns o σ := fun k nm hk => h k nm (by rw [List.getElem?_append_left (List.getElem?_eq_some_iff.mp hk).1]; exact hk)
theorem cc_clear (h8 : 10 ≤ d) (hq : q ≤ 1000) (hW : PuW W) (h : ClA W pg t n wy ch fuel rs rn res q σ) (hK : ∀ τ, ClA W0 .nil t n wy ch fuel rs rn res (q + 1) τ → K (.inl none) τ) : C_X12_clear_0 Z (d + 1) σ K := by
  obtain ⟨d, rfl⟩ : ∃ e, d = e + 4 := ⟨d - 4, by omega⟩
  obtain ⟨B, C, V, a, u, A, m, ver, h⟩ := h
  have F := h.fx
  have k1 := h.1
  have P0 := PuW.w0
  obtain ⟨v1, v2⟩ := h.2.2.2.2.1
  obtain ⟨o, eo⟩ := hW.2.2.2.1
  obtain ⟨mm1, m120, m24, ⟨mc1, mc2, mc3⟩, mm⟩ := k1.2.2.2.1
  have capl := mc3.le
  obtain ⟨-, -, ca, -, ⟨k1', k2', k3', k4', k5'⟩, ⟨b1, b2, b3, b4, b5⟩, ⟨l1, l2, l3, l4⟩⟩ := id k1.1
  obtain ⟨-, -, -, -, p0, p1, p2, -⟩ := id ca
  have pre : ∀ (k : Nat) x, W0.1[k]? = some x → W.1[k]? = some x := fun k x hx => by
    rw [eo, List.getElem?_append_left (List.getElem?_eq_some_iff.mp hx).1]
    exact hx
  refine T_X12_clear_0 F (T_X11_beginAnew_0 F ?_)
  obtain ⟨σ1, hσ1⟩ : ∃ y, y = (((((σ.wi 28 0 (3 : Int32)).wi 28 1 (0 : Int32)).wi 28 2 (0 : Int32)).wi 10 0 (0 : Int32)).wi 24 3 (902 : Int32)) := ⟨_, rfl⟩
  rw [← hσ1]
  have ei : ∀ b j, σ1.i b j = if b = 24 ∧ j = 3 then 902 else if b = 10 ∧ j = 0 then 0 else if b = 28 ∧ j = 2 then 0 else if b = 28 ∧ j = 1 then 0 else if b = 28 ∧ j = 0 then 3 else σ.i b j := fun b j => by
    rw [hσ1]
    rfl
  have er : ∀ b, b ≠ 24 → b ≠ 10 → b ≠ 28 → σ1.i b = σ.i b := fun b z1 z2 z3 => funext fun j => by
    rw [ei, if_neg (by omega), if_neg (by omega), if_neg (by omega), if_neg (by omega), if_neg (by omega)]
  have s1 : σ1.sh = σ.sh := by rw [hσ1]; rfl
  have r1 : σ1.r = σ.r := by rw [hσ1]; rfl
  have ll : σ1.l = σ.l := by rw [hσ1]; rfl
  have F1 : FX ΦC σ1.sh σ1.r := by rw [s1, r1]; exact F
  have SK : SkR C W0 902 σ1 := by
    refine ⟨F1, ⟨ei 28 0, by decide, fun k x hx => ?_⟩, fun k x hx => ?_, ⟨by decide, fun k x hx => by cases hx⟩, ⟨ei 10 0, by decide, ei 24 3, ⟨Nat.le_refl _, by omega, mc3⟩, fun m x hx => by cases hx⟩, P0.1.1, ⟨p0, p1, p2⟩⟩
    · rw [er 3 (by decide) (by decide) (by decide)]
      exact k5' k x (pre k x hx)
    · obtain ⟨⟨q1, q2, q3⟩, q4⟩ := k1.2.1 k x (pre k x hx)
      refine ⟨⟨by rw [er 4 (by decide) (by decide) (by decide)]; exact q1, by rw [er 5 (by decide) (by decide) (by decide)]; exact q2, fun w hw i y hy => ?_⟩, q4⟩
      rw [er 7 (by decide) (by decide) (by decide), er 8 (by decide) (by decide) (by decide)]
      exact q3 w hw i y hy
  refine cl_stock (d := d) SK (fun τ g st e16 => ?_)
  have nm0 : NmS (W0.1.map (·.1)) 0 σ ∧ (W0.1.map (·.1)).Nodup := by
    rw [eo, List.map_append] at k3' k4'
    exact ⟨k3'.pre, (List.nodup_append.mp k4').1⟩
  have nm1 : NmS (W0.1.map (·.1)) 0 σ1 := fun k nm hk => by
    rw [ll]
    exact nm0.1 k nm hk
  have cr := SkF.cr k1 SK (fun k x hx => by cases hx) g st s1 r1 ⟨nm1, nm0.2⟩ ⟨ei 28 1, fun k nm hk => (by cases hk), List.Pairwise.nil⟩ ⟨ei 28 2, by decide, fun k nm hk => (by cases hk), List.Pairwise.nil⟩ (Nat.le_refl _) (ei 28 3)
  obtain ⟨g1, g2, g3, g4⟩ := id g
  have Fτ := cr.1.1
  have gi : ∀ b j, ¬ (1 ≤ b ∧ b ≤ 38) → τ.i b j = σ.i b j := fun b j z => by
    rw [g3 b j (by omega) (by omega), er b (by omega) (by omega) (by omega)]
  have sq := h.2.2.2.1.1.sq
  obtain ⟨e, ng, -⟩ := h.2.2.2.1.1.2
  have hp := pw_7 ng.1
  have m1 : 2 ^ e * 2 ^ e ≤ 128 * 128 := Nat.mul_le_mul hp.2 hp.2
  have rτ : τ.r = σ.r := g2.trans r1
  have sτ : τ.sh = σ.sh := g1.trans s1
  have djn := h.2.2.2.2.2.1.2.2.1
  refine T_X6_forgetAll_0 Fτ ⟨sqA σ, by rw [rτ]; exact ng.2.2.1, cl_fillI (d := d + 2) Fτ (by rw [sτ]; exact ng.2.2.2.1) (by omega) (fun υ q1 q2 q3 q4 q5 q6 => ?_)⟩
  have gk : KpF (fun b => b = sqA σ) τ υ := ⟨⟨[], by rw [q1, List.append_nil]⟩, fun b k _ => by rw [q3], fun b _ z => ⟨q4 b z, by rw [q2]⟩⟩
  have cr2 : CRs B C W0 902 υ := cr.kn gk.gn (x0 := sqA σ) (fun b _ z => Or.inr (Or.inr z)) sq djn
  have wo : WoF σ υ := ⟨q1.trans (g1.trans s1), q3.trans (g2.trans r1), fun b j z z' => by rw [q4 b z']; exact gi b j z, by rw [q4 1 (by omega), g3 1 15 (by omega) (by omega), er 1 (by decide) (by decide) (by decide)], fun b j z => by rw [q2, g4 b j z, ll]⟩
  have X := h.wo wo cr2 (by rw [q4 1 (by omega), e16, er 1 (by decide) (by decide) (by decide), v1, oN_1]) hq ⟨e, ng.keep (by rw [q3, rτ]) ((congrFun (q4 46 (by omega)) 2).trans (gi 46 2 (by omega))) (fun s hs => by rw [q1, sτ]; exact hs), fun m n hm hn => Or.inl (by rw [sqA_g (show υ.r 46 3 = σ.r 46 3 by rw [q3, rτ])]; exact q5 _ (sq_lt hm hn))⟩ (fun j hj => ?_)
  · obtain ⟨-, -, -, -, -, -, ⟨-, -, -, x9⟩, -⟩ := id X
    refine hK _ ⟨B, C, V, 902, u, A, m, ver + 1, X.pn (pg' := .nil) ((XF.refl _ _).wi (a := 0) rfl) (Nat.le_refl _) ((wi_ne (by decide)).trans x9) (wi_ne (by decide)) (wi_ne (by decide)) (wi_ne (by decide)) (wi_at ..) (fun z => by cases z)⟩
  · rw [q4 C.2.1 (by omega), q4 C.2.2.1 (by omega), q4 C.2.2.2 (by omega), g3 C.2.1 j (by omega) (by omega), g3 C.2.2.1 j (by omega) (by omega), g3 C.2.2.2 j (by omega) (by omega), er C.2.1 (by omega) (by omega) (by omega), er C.2.2.1 (by omega) (by omega) (by omega), er C.2.2.2 (by omega) (by omega) (by omega)]
    exact ⟨rfl, rfl, rfl⟩
end CLEARC

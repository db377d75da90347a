/-! LISTS OF NODES: rules for Object[] (the library's ArrayList), class constants, casts -/
theorem cD0 {sh : List Sh} {r : Nat → Nat → Rf} {a k : Nat} (F : FX ΦR sh r) (h : sh[a]? = some (Sh.obj 0)) : ΦR.cst a k = false := by
  show cstR a k = false
  unfold cstR
  cases e : sh0R[a]? with
  | none => rfl
  | some s =>
    have := F.s (a := a) e
    rw [h] at this
    cases this
    rfl
theorem nRa_n {ty : FieldType} {x : Rf} : narrow (.array ty) (rv x) = rv x := by rcases x with _ | a | j <;> rfl
theorem nRa_f {ty : FieldType} {x : Rf} : fits (.array ty) (ab_un (rv x)) = true := by rcases x with _ | a | j <;> rfl
def n14 : Sh → Bool
  | .inr (.inl (t, _)) => !(t == 14)
  | _ => true
theorem no14 : sh0R.all n14 = true := by decide +kernel
/-- no Object[] is one of the first cells -/
theorem cD14 {sh : List Sh} {r : Nat → Nat → Rf} {a k n : Nat} (F : FX ΦR sh r) (h : sh[a]? = some (Sh.arr 14 n)) : ΦR.cst a k = false := by
  show cstR a k = false
  unfold cstR
  cases e : sh0R[a]? with
  | none => rfl
  | some s =>
    have := F.s (a := a) e
    rw [h] at this
    cases this
    have := List.all_eq_true.mp no14 _ (List.mem_of_getElem? e)
    cases this
theorem conc_alR (σ : Sg) (n : Nat) : conc (σ.al (Sh.arr 14 n)) = conc σ ++ [.inr (.inl (14, .inr (.inr (List.replicate n none))))] := by
  rw [conc_al, sg_c_arr]
  show conc σ ++ [.inr (.inl (14, .inr (.inr ((List.range n).map (fun _ => none)))))] = _
  rw [rg_rep]
theorem ab_fin.q_cst {G : ab_G} {T : ab_GT} {d : Nat} {M : ab_MX} {pc : Nat} {lv : ab_L} {h : List ab_E} {Q : kX} {ix a ci pc' : Nat} {fs : List Value} {r : List Value} (hd : decode (ab_mc M.1) pc = .ok (.checkcast ix, 3)) (ha : h[a]? = some (.inr (.inr (ci, fs)))) (hc : ab_xC (ab_gX G) (ab_mo M.1) ix ci = true) (hp : pc + 3 = pc') (e : ab_fin G T d M pc' lv (.ref a :: r) h Q) : ab_fin G T d M pc lv (.ref a :: r) h Q := by
  subst hp
  refine ab_fin.s9h (pc' := pc + 3) (st' := .ref a :: r) rfl hd ?_ e
  simp only [ab_s9, ha, hc, if_pos]
/-- a Node into an Object[] -/
def sO (h : List ab_E) (a : Nat) (i : Int32) (v : Nat) (h1 : List ab_E) : Prop := ∃ l fs, h[a]? = some (.inr (.inl (14, .inr (.inr l)))) ∧ h[v]? = some (.inr (.inr (21, fs))) ∧ ¬ (i < 0 ∨ l.length ≤ i.toNatClampNeg) ∧ h.set a (.inr (.inl (14, .inr (.inr (l.set i.toNatClampNeg (some v)))))) = h1
theorem ab_fin.q_sO {z : Option Value × Option Value × Option Value} {x0 : Option (Nat × Nat × (Nat → Value))} {T : ab_GT} {d : Nat} {M : ab_MX} {pc : Nat} {lv : ab_L} {h : List ab_E} {Q : kX} {a v pc' : Nat} {i : Int32} {r : List Value} {h1 : List ab_E} (hd : decode (ab_mc M.1) pc = .ok (.aastore, 1)) (q : sO h a i v h1) (hp : pc + 1 = pc') (e : ab_fin (hb_Gz z x0) T d M pc' lv r h1 Q) : ab_fin (hb_Gz z x0) T d M pc lv (.ref v :: .int i :: .ref a :: r) h Q := by
  subst hp
  obtain ⟨l, fs, ha, hv, hi, rfl⟩ := q
  refine e.step hd ?_
  unfold ab_step
  have hR : ab_arR h a = some (14, l) := by
    simp only [ab_arR, ha]
    rfl
  have h5 : ab_s5 (ab_gF (hb_Gz z x0) (ab_mo M.1) (ab_mi M.1)) (ab_gO (hb_Gz z x0)) (ab_gK (hb_Gz z x0)) h .aastore 1 (.ref v :: .int i :: .ref a :: r) = none := by
    have : ¬ (((ab_gK (hb_Gz z x0))[21]?).map (fun z => FieldType.object z.1) = ab_gO (hb_Gz z x0) (14 - 4) ∧ (ab_gO (hb_Gz z x0) (14 - 4)).isSome = true) := by
      rintro ⟨q, -⟩
      have q2 : (some (FieldType.object "DispatchHouseModel$Node")) = some (FieldType.object "java/lang/Object") := q
      injection (Option.some.inj q2) with q3
      exact absurd q3 (by decide)
    simp only [ab_s5, hR, hv, Option.bind_some, if_neg hi, if_neg this]
  rw [show ab_s1 .aastore 1 (.ref v :: .int i :: .ref a :: r) = none from rfl, show ab_s2 (ab_mL M.1) .aastore 1 lv (.ref v :: .int i :: .ref a :: r) = none from rfl, show ab_s3 .aastore 1 pc (.ref v :: .int i :: .ref a :: r) = none from rfl, show ab_s4 (ab_gF (hb_Gz z x0) (ab_mo M.1) (ab_mi M.1)) (ab_gO (hb_Gz z x0)) h .aastore 1 (.ref v :: .int i :: .ref a :: r) = none from rfl, h5, show ab_s6 (ab_gC (hb_Gz z x0) (ab_mo M.1)) h .aastore 1 (.ref v :: .int i :: .ref a :: r) = none from rfl, show ab_s7 (ab_gI (hb_Gz z x0) (ab_mo M.1)) (ab_gL (hb_Gz z x0) (ab_mo M.1)) .aastore 1 (.ref v :: .int i :: .ref a :: r) = none from rfl, show ab_s8 (ab_gX (hb_Gz z x0)) (ab_mo M.1) .aastore 1 (.ref v :: .int i :: .ref a :: r) = none from rfl]
  have h9 : ab_s9 (ab_gX (hb_Gz z x0)) (ab_gO (hb_Gz z x0)) (ab_mo M.1) h .aastore 1 pc (.ref v :: .int i :: .ref a :: r) = some (pc + 1, r, h.set a (.inr (.inl (14, .inr (.inr (l.set i.toNatClampNeg (some v))))))) := by
    have hF : ab_xF (ab_gX (hb_Gz z x0)) 21 14 = true := rfl
    simp only [ab_s9, hR, hv, Option.bind_some, if_neg hi, hF, if_pos]
  simp only [h9]
theorem c_sO {σ : Sg} {a n v : Nat} {x : Int32} (h : σ.sh[a]? = some (Sh.arr 14 n)) (hv : σ.sh[v]? = some (Sh.obj 21)) (b : ib x n) : sO (conc σ) a x v (conc (σ.wr a x.toNatClampNeg (.ptr v))) := by
  have hcc : ∀ τ : Sg, sg_c τ a (.arr 14 n) = .inr (.inl (14, .inr (.inr ((List.range n).map fun k => rfo (τ.r a k))))) := fun τ => rfl
  refine ⟨_, _, (conc_get h).trans (by rw [hcc]), conc_get hv, ib_bd b, ?_⟩
  rw [conc_set (σ := σ) (τ := σ.wr a x.toNatClampNeg (.ptr v)) rfl h (fun _ _ => rfl) (fun _ _ => rfl) (fun b hb => up_row hb), hcc]
  rw [rg_set (fun k => rfo (σ.r a k)) (fun k => rfo ((σ.wr a x.toNatClampNeg (.ptr v)).r a k)) (fun j hj => by show rfo (up σ.r _ _ _ _ _) = _; rw [up_ne (fun q => hj q.2)])]
  show _ = (conc σ).set a (.inr (.inl (14, .inr (.inr (((List.range n).map fun k => rfo (σ.r a k)).set x.toNatClampNeg (rfo (up σ.r a x.toNatClampNeg (.ptr v) a x.toNatClampNeg)))))))
  rw [up_same]
  rfl
/-- getClass() of an Object[] -/
theorem c_gc {G : ab_G} {ix y na ci a n : Nat} {σ : Sg} {r : List Value} (hT : ab_gT G 44 ix = some (10, y, na, ci)) (h : σ.sh[a]? = some (Sh.arr 14 n)) (hr : ab_cat r ≤ 8) : ab_cpy G 44 (conc σ) (.invokevirtual ix) 3 (.ref a :: r) = some (.retAddr y :: r, conc σ) := by
  have := conc_get h
  rw [sg_c_arr] at this
  simp only [ab_cpy, hT, this, sg_a]
  rw [if_pos ⟨trivial, trivial, hr⟩]
/-- all its elements are Nodes, or none -/
def ndA (σ : Sg) (a n : Nat) : Prop := ∀ k, k < n → σ.r a k = Rf.nul ∨ ∃ v, σ.r a k = Rf.ptr v ∧ σ.sh[v]? = some (Sh.obj 21)
def Sg.cpR (σ : Sg) (a0 sp a dp n : Nat) : Sg := (σ.sh, σ.i, σ.l, (fun b j => if b = a ∧ dp ≤ j ∧ j < dp + n then σ.r a0 (sp + (j - dp)) else σ.r b j))
theorem FX.cpR {σ : Sg} {a0 sp a dp n : Nat} (F : FX ΦR σ.sh σ.r) (h : ∀ k, ΦR.cst a k = false) : FX ΦR (σ.cpR a0 sp a dp n).sh (σ.cpR a0 sp a dp n).r := by
  refine ⟨F.1, fun b j hb => ?_⟩
  show (if b = a ∧ dp ≤ j ∧ j < dp + n then σ.r a0 (sp + (j - dp)) else σ.r b j) = _
  rw [if_neg (fun q => by rw [q.1, h] at hb; cases hb)]
  exact F.2 b j hb
theorem c_cpR {z : Option Value × Option Value × Option Value} {x0 : Option (Nat × Nat × (Nat → Value))} {o ix y na ci : Nat} {σ : Sg} {a0 a m0 m : Nat} {n dp sp : Int32} {r : List Value} (hT : ab_gT (hb_Gz z x0) o ix = some (5, y, na, ci)) (h0 : σ.sh[a0]? = some (Sh.arr 14 m0)) (h1 : σ.sh[a]? = some (Sh.arr 14 m)) (hb : cpb sp dp n m0 m) (hn : ndA σ a0 m0) (hr : ¬ 8 < ab_cat r) : ab_cpy (hb_Gz z x0) o (conc σ) (.invokestatic ix) 3 (.int n :: .int dp :: .ref a :: .int sp :: .ref a0 :: r) = some (r, conc (σ.cpR a0 sp.toNatClampNeg a dp.toNatClampNeg n.toNatClampNeg)) := by
  obtain ⟨b1, b2, b3, b4, b5⟩ := hb
  have hc : ¬ (n < 0 ∨ dp < 0 ∨ sp < 0 ∨ 8 < ab_cat r) := by
    rintro (q | q | q | q)
    · exact b1 q
    · exact b2 q
    · exact b3 q
    · exact hr q
  have e0 : (conc σ)[a0]? = some (.inr (.inl (14, .inr (.inr ((List.range m0).map fun k => rfo (σ.r a0 k)))))) := conc_get h0
  have e1 : (conc σ)[a]? = some (.inr (.inl (14, .inr (.inr ((List.range m).map fun k => rfo (σ.r a k)))))) := conc_get h1
  have hcp : ab_cp (conc σ) (.int n :: .int dp :: .ref a :: .int sp :: .ref a0 :: r) = none := by
    simp only [ab_cp, if_neg hc, ab_arI, ab_arL, e0, Option.bind_none]
  have hq : ((List.range m0).map fun k => rfo (σ.r a0 k)).all (ab_okE (ab_gX (hb_Gz z x0)) (conc σ) 14) = true := by
    rw [List.all_eq_true]
    intro x hx
    obtain ⟨k, hk, rfl⟩ := List.mem_map.mp hx
    rcases hn k (List.mem_range.mp hk) with q | ⟨v, q, hv⟩
    · rw [q]
      rfl
    · rw [q]
      have := conc_get hv
      show (match (conc σ)[v]? with | some (.inr (.inr (ci, _))) => ab_xF (ab_gX (hb_Gz z x0)) ci 14 | _ => false) = true
      rw [this]
      rfl
  have hcq : ab_cq (ab_gX (hb_Gz z x0)) (ab_gO (hb_Gz z x0)) (conc σ) (.int n :: .int dp :: .ref a :: .int sp :: .ref a0 :: r) = some (r, conc (σ.cpR a0 sp.toNatClampNeg a dp.toNatClampNeg n.toNatClampNeg)) := by
    have r0 : ab_arR (conc σ) a0 = some (14, (List.range m0).map fun k => rfo (σ.r a0 k)) := by
      simp only [ab_arR, e0]
      rfl
    have r1 : ab_arR (conc σ) a = some (14, (List.range m).map fun k => rfo (σ.r a k)) := by
      simp only [ab_arR, e1]
      rfl
    simp only [ab_cq, if_neg hc, r0, r1, Option.bind_some]
    rw [if_pos (by rw [List.length_map, List.length_range, List.length_map, List.length_range]; exact ⟨b4, b5, trivial, trivial, hq, rfl⟩)]
    rw [lay_rg _ _ _ b4]
    rw [conc_set (σ := σ) (τ := σ.cpR a0 sp.toNatClampNeg a dp.toNatClampNeg n.toNatClampNeg) rfl h1 (fun _ _ => rfl) (fun _ _ => rfl) (fun b hb => funext fun j => if_neg (fun q => hb q.1)), sg_c_arr]
    show some (r, (conc σ).set a (.inr (.inl (14, .inr (.inr ((List.range m).map fun j => if dp.toNatClampNeg ≤ j ∧ j < dp.toNatClampNeg + n.toNatClampNeg then rfo (σ.r a0 (sp.toNatClampNeg + (j - dp.toNatClampNeg))) else rfo (σ.r a j))))))) = some (r, (conc σ).set a (.inr (.inl (14, .inr (.inr ((List.range m).map fun j => rfo (if a = a ∧ dp.toNatClampNeg ≤ j ∧ j < dp.toNatClampNeg + n.toNatClampNeg then σ.r a0 (sp.toNatClampNeg + (j - dp.toNatClampNeg)) else σ.r a j)))))))
    simp only [true_and, apply_ite rfo]
  simp only [ab_cpy, hT, hcp, hcq]

/-! NEW CELLS, ROWS COPIED -/
def Sg.al (σ : Sg) (s : Sh) : Sg := (σ.sh ++ [s], fun b j => if b = σ.sh.length then 0 else σ.i b j, fun b j => if b = σ.sh.length then 0 else σ.l b j, fun b j => if b = σ.sh.length then Rf.nul else σ.r b j)
theorem al_s {σ : Sg} {s t : Sh} {a : Nat} (h : σ.sh[a]? = some t) : (σ.al s).sh[a]? = some t := by
  show (σ.sh ++ [s])[a]? = _
  rw [List.getElem?_append_left (List.getElem?_eq_some_iff.mp h).1]
  exact h
theorem al_n {σ : Sg} {s : Sh} : (σ.al s).sh[σ.sh.length]? = some s := by
  show (σ.sh ++ [s])[σ.sh.length]? = _
  rw [List.getElem?_append_right (Nat.le_refl _), Nat.sub_self]
  rfl
def sg_0 : Sg := ([], fun _ _ => 0, fun _ _ => 0, fun _ _ => Rf.nul)
theorem conc_al (σ : Sg) (s : Sh) : conc (σ.al s) = conc σ ++ [sg_c sg_0 0 s] := by
  refine List.ext_getElem? fun b => ?_
  by_cases hb : b < σ.sh.length
  · rw [List.getElem?_append_left (by rw [conc_len]; exact hb)]
    obtain ⟨t, ht⟩ : ∃ t, σ.sh[b]? = some t := ⟨_, List.getElem?_eq_getElem hb⟩
    rw [conc_get (al_s ht), conc_get ht]
    have hi : (σ.al s).i b = σ.i b := funext fun j => if_neg (by omega)
    have hl : (σ.al s).l b = σ.l b := funext fun j => if_neg (by omega)
    have hr : (σ.al s).r b = σ.r b := funext fun j => if_neg (by omega)
    congr 1
    rcases t with ci | ⟨t, n⟩ | n
    · rw [sg_c_obj, sg_c_obj]
      unfold sg_o
      have : (fun k ty => sg_f (σ.al s) b k ty) = (fun k ty => sg_f σ b k ty) := by
        funext k ty
        unfold sg_f
        rw [hi, hl, hr]
      rw [this]
    · rw [sg_c_arr, sg_c_arr]
      have : sg_a (σ.al s) b n t = sg_a σ b n t := by
        unfold sg_a
        rw [hi, hl, hr]
      rw [this]
    · rfl
  · by_cases hb2 : b = σ.sh.length
    · subst hb2
      rw [conc_get al_n, List.getElem?_append_right (by rw [conc_len]; omega), conc_len, Nat.sub_self]
      have hi : (σ.al s).i σ.sh.length = fun _ => 0 := funext fun j => if_pos rfl
      have hl : (σ.al s).l σ.sh.length = fun _ => 0 := funext fun j => if_pos rfl
      have hr : (σ.al s).r σ.sh.length = fun _ => Rf.nul := funext fun j => if_pos rfl
      show some _ = some _
      congr 1
      rcases s with ci | ⟨t, n⟩ | n
      · rw [sg_c_obj, sg_c_obj]
        unfold sg_o
        have : (fun k ty => sg_f (σ.al (Sh.obj ci)) σ.sh.length k ty) = (fun k ty => sg_f sg_0 0 k ty) := by
          funext k ty
          unfold sg_f
          rw [hi, hl, hr]
          rfl
        rw [this]
      · rw [sg_c_arr, sg_c_arr]
        have : sg_a (σ.al (Sh.arr t n)) σ.sh.length n t = sg_a sg_0 0 n t := by
          unfold sg_a
          rw [hi, hl, hr]
          rfl
        rw [this]
      · rfl
    · rw [List.getElem?_eq_none (by rw [conc_len]; show (σ.sh ++ [s]).length ≤ b; rw [List.length_append]; show σ.sh.length + 1 ≤ b; omega), List.getElem?_eq_none (by rw [List.length_append, conc_len]; show σ.sh.length + 1 ≤ b; omega)]
theorem rg_rep {α : Type} (x : α) (n : Nat) : (List.range n).map (fun _ => x) = List.replicate n x := by
  rw [List.map_const', List.length_range]
theorem conc_alI (σ : Sg) (n : Nat) : conc (σ.al (Sh.arr 0 n)) = conc σ ++ [.inr (.inl (0, .inl (List.replicate n 0)))] := by
  rw [conc_al, sg_c_arr]
  show conc σ ++ [.inr (.inl (0, .inl ((List.range n).map (fun _ => 0))))] = _
  rw [rg_rep]
theorem conc_alL (σ : Sg) (n : Nat) : conc (σ.al (Sh.arr 1 n)) = conc σ ++ [.inr (.inl (1, .inr (.inl (List.replicate n 0))))] := by
  rw [conc_al, sg_c_arr]
  show conc σ ++ [.inr (.inl (1, .inr (.inl ((List.range n).map (fun _ => 0)))))] = _
  rw [rg_rep]
theorem FX.al {Φ : Fix} {σ : Sg} {s : Sh} (hΦ : ∀ a k, Φ.cst a k = true → a < Φ.sh0.length) (F : FX Φ σ.sh σ.r) : FX Φ (σ.al s).sh (σ.al s).r := by
  obtain ⟨⟨dyn, h⟩, h2⟩ := F
  refine ⟨⟨dyn ++ [s], by show σ.sh ++ [s] = _; rw [h, List.append_assoc]⟩, fun a k hc => ?_⟩
  have := hΦ a k hc
  have hl : Φ.sh0.length ≤ σ.sh.length := by rw [h, List.length_append]; omega
  show (if a = σ.sh.length then Rf.nul else σ.r a k) = _
  rw [if_neg (by omega)]
  exact h2 a k hc
/-- a row's piece copied -/
def Sg.cpI (σ : Sg) (a0 sp a dp n : Nat) : Sg := (σ.sh, (fun b j => if b = a ∧ dp ≤ j ∧ j < dp + n then σ.i a0 (sp + (j - dp)) else σ.i b j), σ.l, σ.r)
def Sg.cpL (σ : Sg) (a0 sp a dp n : Nat) : Sg := (σ.sh, σ.i, (fun b j => if b = a ∧ dp ≤ j ∧ j < dp + n then σ.l a0 (sp + (j - dp)) else σ.l b j), σ.r)
abbrev cpb (sp dp n : Int32) (m0 m : Nat) : Prop := ¬ n < 0 ∧ ¬ dp < 0 ∧ ¬ sp < 0 ∧ sp.toNatClampNeg + n.toNatClampNeg ≤ m0 ∧ dp.toNatClampNeg + n.toNatClampNeg ≤ m
theorem lay_rg {α : Type} (f g : Nat → α) (z : α) {m0 m sp dp n : Nat} (h : sp + n ≤ m0) : ab_lay ((List.range m0).map f) ((List.range m).map g) z sp dp n = (List.range m).map (fun j => if dp ≤ j ∧ j < dp + n then f (sp + (j - dp)) else g j) := by
  refine List.ext_getElem? fun j => ?_
  unfold ab_lay
  rw [List.getElem?_mapIdx, List.getElem?_map, List.getElem?_map]
  cases e : (List.range m)[j]? with
  | none => rfl
  | some x =>
    have hx : x = j := by
      have := List.getElem?_eq_some_iff.mp e
      obtain ⟨h1, h2⟩ := this
      rw [List.getElem_range] at h2
      exact h2.symm
    subst hx
    show some (if dp ≤ x ∧ x < dp + n then ((List.range m0).map f).getD (sp + (x - dp)) z else g x) = some (if dp ≤ x ∧ x < dp + n then f (sp + (x - dp)) else g x)
    by_cases q : dp ≤ x ∧ x < dp + n
    · rw [if_pos q, if_pos q, List.getD_eq_getElem?_getD, rg_get f (by omega)]
      rfl
    · rw [if_neg q, if_neg q]
theorem c_cpI {σ : Sg} {a0 a m0 m : Nat} {n dp sp : Int32} {r : List Value} (h0 : σ.sh[a0]? = some (Sh.arr 0 m0)) (h1 : σ.sh[a]? = some (Sh.arr 0 m)) (hb : cpb sp dp n m0 m) (hr : ¬ 8 < ab_cat r) : ab_cp (conc σ) (.int n :: .int dp :: .ref a :: .int sp :: .ref a0 :: r) = some (r, conc (σ.cpI a0 sp.toNatClampNeg a dp.toNatClampNeg n.toNatClampNeg)) := by
  obtain ⟨b1, b2, b3, b4, b5⟩ := hb
  have hc : ¬ (n < 0 ∨ dp < 0 ∨ sp < 0 ∨ 8 < ab_cat r) := by
    rintro (q | q | q | q)
    · exact b1 q
    · exact b2 q
    · exact b3 q
    · exact hr q
  refine ab_cpI (conc_get h0) (conc_get h1) hc (by rw [List.length_map, List.length_range, List.length_map, List.length_range]; exact ⟨b4, b5⟩) ?_
  rw [lay_rg _ _ _ b4]
  rw [conc_set (σ := σ) (τ := σ.cpI a0 sp.toNatClampNeg a dp.toNatClampNeg n.toNatClampNeg) rfl h1 (fun b hb => funext fun j => if_neg (fun q => hb q.1)) (fun _ _ => rfl) (fun _ _ => rfl), sg_c_arr]
  show _ = (conc σ).set a (.inr (.inl (0, .inl ((List.range m).map fun j => if a = a ∧ dp.toNatClampNeg ≤ j ∧ j < dp.toNatClampNeg + n.toNatClampNeg then σ.i a0 (sp.toNatClampNeg + (j - dp.toNatClampNeg)) else σ.i a j))))
  simp only [true_and]
theorem ab_cpL {h h1 : List ab_E} {a a0 : Nat} {l l0 : List Int64} {n dp sp : Int32} {r : List Value} (hb : h[a0]? = some (.inr (.inl (1, .inr (.inl l0))))) (ha : h[a]? = some (.inr (.inl (1, .inr (.inl l))))) (hc : ¬ (n < 0 ∨ dp < 0 ∨ sp < 0 ∨ 8 < ab_cat r)) (hi : sp.toNatClampNeg + n.toNatClampNeg ≤ l0.length ∧ dp.toNatClampNeg + n.toNatClampNeg ≤ l.length) (hw : h.set a (.inr (.inl (1, .inr (.inl (ab_lay l0 l 0 sp.toNatClampNeg dp.toNatClampNeg n.toNatClampNeg))))) = h1) : ab_cp h (.int n :: .int dp :: .ref a :: .int sp :: .ref a0 :: r) = some (r, h1) := by
  simp only [ab_cp, if_neg hc, ab_arI, ab_arL, hb, ha, if_pos, Option.bind_some, if_pos hi, hw]
theorem c_cpL {σ : Sg} {a0 a m0 m : Nat} {n dp sp : Int32} {r : List Value} (h0 : σ.sh[a0]? = some (Sh.arr 1 m0)) (h1 : σ.sh[a]? = some (Sh.arr 1 m)) (hb : cpb sp dp n m0 m) (hr : ¬ 8 < ab_cat r) : ab_cp (conc σ) (.int n :: .int dp :: .ref a :: .int sp :: .ref a0 :: r) = some (r, conc (σ.cpL a0 sp.toNatClampNeg a dp.toNatClampNeg n.toNatClampNeg)) := by
  obtain ⟨b1, b2, b3, b4, b5⟩ := hb
  have hc : ¬ (n < 0 ∨ dp < 0 ∨ sp < 0 ∨ 8 < ab_cat r) := by
    rintro (q | q | q | q)
    · exact b1 q
    · exact b2 q
    · exact b3 q
    · exact hr q
  refine ab_cpL (conc_get h0) (conc_get h1) hc (by rw [List.length_map, List.length_range, List.length_map, List.length_range]; exact ⟨b4, b5⟩) ?_
  rw [lay_rg _ _ _ b4]
  rw [conc_set (σ := σ) (τ := σ.cpL a0 sp.toNatClampNeg a dp.toNatClampNeg n.toNatClampNeg) rfl h1 (fun _ _ => rfl) (fun b hb => funext fun j => if_neg (fun q => hb q.1)) (fun _ _ => rfl), sg_c_arr]
  show _ = (conc σ).set a (.inr (.inl (1, .inr (.inl ((List.range m).map fun j => if a = a ∧ dp.toNatClampNeg ≤ j ∧ j < dp.toNatClampNeg + n.toNatClampNeg then σ.l a0 (sp.toNatClampNeg + (j - dp.toNatClampNeg)) else σ.l a j)))))
  simp only [true_and]
/-- 'throw new E()' -/
theorem ab_fin.q_thr {Φ : Fix} {G : ab_G} {T : ab_GT} {d : Nat} {M : ab_MX} {pc : Nat} {lv : ab_L} {st : List Value} {σ : Sg} {K : kS} {i : Instr} {k : Nat} {cls : String} (hΦ : ∀ a k, Φ.cst a k = true → a < Φ.sh0.length) (hd : decode (ab_mc M.1) pc = .ok (i, k)) (ht : ab_thr T M pc i k = some cls) (hn : ∀ ix, i = .new ix → ab_gC G (ab_mo M.1) ix = none) (h8 : 8 ≤ d) (hc : ab_cat st ≤ 8) (F : FX Φ σ.sh σ.r) (q : K (.inr (cls, σ.sh.length)) (σ.al (Sh.jnk 6))) : ab_fin G T (d + 1) M pc lv st (conc σ) (lf Φ K) := by
  refine ab_fin.thr hd ht hn h8 hc ⟨σ.al (Sh.jnk 6), (conc_al σ (Sh.jnk 6)).symm, F.al hΦ, ?_⟩
  rw [conc_len]
  exact q

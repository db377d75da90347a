/-! THE REFERENCE'S NODES: lists of them, get() -/
def nxc (c : Nat) : Nat := if c = 0 then 10 else c + max 1 (c / 2)
/-- the ArrayList at A holds these Nodes; so many fit into its array -/
def LsS (σ : Sg) (A : Nat) (lst : List Nat) (cap : Nat) : Prop := σ.sh[A]? = some (Sh.obj 0) ∧ σ.i A 2 = Int32.ofNat lst.length ∧ lst.length ≤ cap ∧ (∀ v ∈ lst, σ.sh[v]? = some (Sh.obj 21)) ∧ lst.Nodup ∧ ((cap = 0 ∧ σ.r A 1 = Rf.old 7) ∨ ∃ b, 0 < cap ∧ σ.r A 1 = Rf.ptr b ∧ σ.sh[b]? = some (Sh.arr 14 cap) ∧ (∀ i v, lst[i]? = some v → σ.r b i = Rf.ptr v) ∧ ∀ i, lst.length ≤ i → i < cap → σ.r b i = Rf.nul)
theorem LsS.mono {σ τ : Sg} {A : Nat} {lst : List Nat} {cap : Nat} (h : LsS σ A lst cap) (hs : ∀ (a : Nat) (s : Sh), σ.sh[a]? = some s → τ.sh[a]? = some s) (hi : τ.i A 2 = σ.i A 2) (hr : τ.r A 1 = σ.r A 1) (hb : ∀ b, σ.r A 1 = Rf.ptr b → τ.r b = σ.r b) : LsS τ A lst cap := by
  obtain ⟨h1, h2, h3, h4, h5, h6⟩ := h
  refine ⟨hs _ _ h1, hi.trans h2, h3, fun v hv => hs _ _ (h4 v hv), h5, ?_⟩
  rcases h6 with ⟨c, r⟩ | ⟨b, c, r, s, e1, e2⟩
  · exact Or.inl ⟨c, hr.trans r⟩
  · refine Or.inr ⟨b, c, hr.trans r, hs _ _ s, fun i v q => ?_, fun i q q2 => ?_⟩
    · rw [hb b r]
      exact e1 i v q
    · rw [hb b r]
      exact e2 i q q2
/-- what add() does to all else -/
def FrL (σ τ : Sg) (A : Nat) (lst : List Nat) (cap cap' : Nat) : Prop := (∀ a, a < σ.sh.length → a ≠ A → τ.i a = σ.i a) ∧ (∀ a, a < σ.sh.length → τ.l a = σ.l a) ∧ (∀ a, a < σ.sh.length → a ≠ A → σ.r A 1 ≠ Rf.ptr a → τ.r a = σ.r a) ∧ ((τ.sh = σ.sh ∧ lst.length < cap ∧ cap' = cap ∧ τ.r A 1 = σ.r A 1) ∨ (τ.sh = σ.sh ++ [Sh.arr 14 cap'] ∧ lst.length = cap ∧ cap' = nxc cap ∧ τ.r A 1 = Rf.ptr σ.sh.length))
theorem oN_sub {a b : Nat} (h : b ≤ a) : Int32.ofNat a - Int32.ofNat b = Int32.ofNat (a - b) := by
  have : Int32.ofNat a = Int32.ofNat (a - b) + Int32.ofNat b := by rw [oN_add]; congr 1; omega
  rw [this, Int32.add_sub_cancel]
theorem oN_half {n : Nat} (h : n < 1073741824) : Int32.ofNat n >>> ((1 : Int32) &&& 31) = Int32.ofNat (n / 2) := by
  have e5 : ((1 : Int32) &&& 31) = 1 := by decide
  rw [e5]
  apply Int32.toBitVec_inj.mp
  rw [Int32.toBitVec_shiftRight]
  show BitVec.sshiftRight' (BitVec.ofNat 32 n) ((1 : Int32).toBitVec.smod 32) = BitVec.ofNat 32 (n / 2)
  rw [show ((1 : Int32).toBitVec.smod 32) = 1#32 from by decide]
  apply BitVec.eq_of_toInt_eq
  rw [BitVec.sshiftRight_eq', BitVec.toInt_sshiftRight]
  rw [show (BitVec.ofNat 32 n).toInt = ((n : Nat) : Int) from by
    rw [BitVec.toInt_eq_toNat_of_lt]
    · rw [BitVec.toNat_ofNat, Nat.mod_eq_of_lt (by omega)]
    · rw [BitVec.toNat_ofNat, Nat.mod_eq_of_lt (by omega)]; omega]
  rw [show (BitVec.ofNat 32 (n / 2)).toInt = ((n / 2 : Nat) : Int) from by
    rw [BitVec.toInt_eq_toNat_of_lt]
    · rw [BitVec.toNat_ofNat, Nat.mod_eq_of_lt (by omega)]
    · rw [BitVec.toNat_ofNat, Nat.mod_eq_of_lt (by omega)]; omega]
  rw [show (1#32).toNat = 1 from rfl, Int.shiftRight_eq_div_pow]
  omega
section NODES
variable {Z : zT} {d : Nat} {σ : Sg} {K : kS} {A v : Nat} {lst : List Nat} {cap : Nat}
theorem ls_len {c : Nat} (F : FX ΦR σ.sh σ.r) (hc : c ≤ 1000000) (h0 : 0 < c) (k : K (.inl (some (.int (Int32.ofNat (nxc c))))) σ) : B_J8_newLength_cabcc_0 Z (d + 1) σ (Int32.ofNat c) 1 (Int32.ofNat (c / 2)) K := by
  have e : (Int32.ofNat c + if (1 : Int32) < Int32.ofNat (c / 2) then Int32.ofNat (c / 2) else 1) = Int32.ofNat (nxc c) := by
    have e1 : (1 : Int32) = Int32.ofNat 1 := rfl
    have e2 : nxc c = c + max 1 (c / 2) := by
      unfold nxc
      exact if_neg (by omega)
    rw [e1, e2]
    by_cases q : 1 < c / 2
    · rw [if_pos ((oN_lt (by omega) (by omega)).mpr q), oN_add]
      congr 1
      omega
    · rw [if_neg (fun z => q ((oN_lt (by omega) (by omega)).mp z)), oN_add]
      congr 1
      omega
  have hb : nxc c ≤ 1500001 ∧ 0 < nxc c := by
    unfold nxc
    rw [if_neg (by omega)]
    omega
  refine S_J8_newLength_cabcc_0 F ?_
  rw [e]
  refine ⟨fun q => ?_, fun _ => ⟨fun q => ?_, fun _ => k⟩⟩
  · have := (oN_le (b := 0) (by omega) (by omega)).mp q
    omega
  · have := (oN_lt (a := 2147483639) (by omega) (by omega)).mp q
    omega
theorem ls_copy {b c c' : Nat} (F : FX ΦR σ.sh σ.r) (hb : σ.sh[b]? = some (Sh.arr 14 c)) (hl : c ≤ c') (hc : c' ≤ 2000000) (hn : ndA σ b c) (k : ∀ τ, FX ΦR τ.sh τ.r → τ.sh = σ.sh ++ [Sh.arr 14 c'] → (∀ a, a < σ.sh.length → τ.i a = σ.i a ∧ τ.l a = σ.l a ∧ τ.r a = σ.r a) → (∀ i, i < c → τ.r σ.sh.length i = σ.r b i) → (∀ i, c ≤ i → τ.r σ.sh.length i = Rf.nul) → K (.inl (some (.ref σ.sh.length))) τ) : B_J7_copyOf_1904c_0 Z (d + 2) σ (Rf.ptr b) (Int32.ofNat c') K := by
  have hbl : b < σ.sh.length := (List.getElem?_eq_some_iff.mp hb).1
  refine S_J7_copyOf_1904c_0 (d := d + 1) F ⟨b, rfl, c, hb, ?_⟩
  have e1 : (Int32.ofNat c').toNatClampNeg = c' := oN_t (by omega)
  refine S_J7_copyOf_6403c_0 (d := d) F ⟨rfl, ?_, ?_⟩
  · rw [e1]
    rintro (q | q)
    · have := (oN_lt (b := 0) (by omega) (by omega)).mp q
      omega
    · omega
  · rw [e1]
    have F1 : FX ΦR (σ.al (Sh.arr 14 c')).sh (σ.al (Sh.arr 14 c')).r := F.al hΦR
    have em : (if Int32.ofNat c' < Int32.ofNat c then Int32.ofNat c' else Int32.ofNat c) = Int32.ofNat c := if_neg (fun z => by have := (oN_lt (by omega) (by omega)).mp z; omega)
    have e2 : (Int32.ofNat c).toNatClampNeg = c := oN_t (by omega)
    have e0 : (0 : Int32).toNatClampNeg = 0 := by decide
    refine S_J7_copyOf_6403c_24 (d := d) F1 (Or.inl ⟨b, rfl, c, al_s hb, c', al_n, ?_⟩)
    rw [em, e2, e0]
    refine ⟨⟨fun q => ?_, by decide, by decide, ?_, ?_⟩, fun i hi => ?_, ?_⟩
    · have := (oN_lt (b := 0) (by omega) (by omega)).mp q
      omega
    · rw [e0, e2]
      omega
    · rw [e0, e2]
      omega
    · have er : (σ.al (Sh.arr 14 c')).r b i = σ.r b i := if_neg (by omega)
      rw [er]
      rcases hn i hi with q | ⟨v, q, hv⟩
      · exact Or.inl q
      · exact Or.inr ⟨v, q, al_s hv⟩
    · refine Or.inl ⟨Rf.ptr _, rfl, ?_⟩
      have F2 : FX ΦR ((σ.al (Sh.arr 14 c')).cpR b 0 σ.sh.length 0 c).sh ((σ.al (Sh.arr 14 c')).cpR b 0 σ.sh.length 0 c).r := FX.cpR F1 (fun k => cD14 F1 al_n)
      refine k _ F2 rfl (fun a ha => ⟨?_, ?_, ?_⟩) (fun i hi => ?_) (fun i hi => ?_)
      · funext j
        exact if_neg (by omega)
      · funext j
        exact if_neg (by omega)
      · funext j
        show (if a = σ.sh.length ∧ 0 ≤ j ∧ j < 0 + c then _ else (if a = σ.sh.length then Rf.nul else σ.r a j)) = _
        rw [if_neg (by omega), if_neg (by omega)]
      · show (if σ.sh.length = σ.sh.length ∧ 0 ≤ i ∧ i < 0 + c then (if b = σ.sh.length then Rf.nul else σ.r b (0 + (i - 0))) else _) = _
        rw [if_pos (by omega), if_neg (by omega)]
        congr 1
        omega
      · show (if σ.sh.length = σ.sh.length ∧ 0 ≤ i ∧ i < 0 + c then _ else (if σ.sh.length = σ.sh.length then Rf.nul else σ.r σ.sh.length i)) = _
        rw [if_neg (by omega), if_pos rfl]
/-- the array made longer (it is full) -/
theorem ls_grow (F : FX ΦR σ.sh σ.r) (h : LsS σ A lst cap) (hf : lst.length = cap) (hc : cap ≤ 1000000) (k : ∀ τ, FX ΦR τ.sh τ.r → τ.sh = σ.sh ++ [Sh.arr 14 (nxc cap)] → (∀ a, a < σ.sh.length → τ.i a = σ.i a ∧ τ.l a = σ.l a ∧ ∀ j, ¬ (a = A ∧ j = 1) → τ.r a j = σ.r a j) → τ.r A 1 = Rf.ptr σ.sh.length → (∀ i v, lst[i]? = some v → τ.r σ.sh.length i = Rf.ptr v) → (∀ i, cap ≤ i → τ.r σ.sh.length i = Rf.nul) → K (.inl (some (.ref σ.sh.length))) τ) : B_Jx4a65c_grow_d5877_0 Z (d + 4) σ A K := by
  obtain ⟨h1, h2, h3, h4, h5, h6⟩ := h
  have hA : A < σ.sh.length := (List.getElem?_eq_some_iff.mp h1).1
  refine S_Jx4a65c_grow_d5877_0 (d := d + 3) F ⟨h1, ?_⟩
  rw [h2, oN_1, hf]
  rcases h6 with ⟨c0, r⟩ | ⟨b, c0, r, s, e1, e2⟩
  · subst c0
    have l0 : lst = [] := List.eq_nil_of_length_eq_zero hf
    subst l0
    refine S_Jx4a65c_grow_92f84_0 (d := d + 2) F ⟨h1, Or.inr ⟨r, fun q => absurd q (by decide), fun _ => Or.inr ⟨r, ?_⟩⟩⟩
    have e : (if (10 : Int32) < Int32.ofNat (0 + 1) then Int32.ofNat (0 + 1) else (10 : Int32)) = Int32.ofNat 10 := by decide
    have e3 : (Int32.ofNat 10).toNatClampNeg = 10 := by decide
    rw [e, e3]
    refine ⟨by decide, Or.inl ⟨Rf.ptr _, rfl, ?_⟩⟩
    have F1 : FX ΦR (σ.al (Sh.arr 14 10)).sh (σ.al (Sh.arr 14 10)).r := F.al hΦR
    have F2 := FX.w (a := A) (k := 1) (v := Rf.ptr σ.sh.length) F1 (cD0 F1 (al_s h1))
    refine k ((σ.al (Sh.arr 14 10)).wr A 1 (Rf.ptr σ.sh.length)) F2 rfl (fun a ha => ⟨?_, ?_, fun j hj => ?_⟩) ?_ (fun i v q => by cases i <;> cases q) (fun i _ => ?_)
    · funext j
      exact if_neg (by omega)
    · funext j
      exact if_neg (by omega)
    · show up _ _ _ _ _ _ = _
      rw [up_ne hj]
      exact if_neg (by omega)
    · exact up_same _ _ _ _
    · show up _ _ _ _ _ _ = _
      rw [up_ne (by omega)]
      exact if_pos rfl
  · have hcl : ¬ (Int32.ofNat cap ≤ 0) := fun q => by
      have := (oN_le (b := 0) (by omega) (by omega)).mp q
      omega
    have hgo : B_Jx4a65c_grow_92f84_20 Z (d + 2 + 1) σ A (Int32.ofNat (cap + 1)) (Int32.ofNat cap) (yW K fun v4 τ2 => K (.inl (some (rv v4))) τ2) := by
      refine S_Jx4a65c_grow_92f84_20 (d := d + 2) F ?_
      rw [oN_sub (by omega), show cap + 1 - cap = 1 from by omega, oN_half (by omega)]
      refine ls_len (d := d + 1) F hc c0 ⟨h1, ?_⟩
      rw [r]
      have hnx : cap ≤ nxc cap ∧ nxc cap ≤ 2000000 := by
        unfold nxc
        rw [if_neg (by omega)]
        omega
      refine ls_copy (d := d) F s hnx.1 hnx.2 (fun i hi => ?_) (fun τ F2 q1 q2 q3 q4 => ?_)
      · obtain ⟨v, hv⟩ : ∃ v, lst[i]? = some v := ⟨_, List.getElem?_eq_getElem (by omega)⟩
        exact Or.inr ⟨v, e1 i v hv, h4 v (List.mem_of_getElem? hv)⟩
      · have hA2 : τ.sh[A]? = some (Sh.obj 0) := by
          rw [q1, List.getElem?_append_left hA]
          exact h1
        refine Or.inl ⟨Rf.ptr _, rfl, hA2, Or.inl ⟨Rf.ptr _, rfl, ?_⟩⟩
        have F3 := FX.w (a := A) (k := 1) (v := Rf.ptr σ.sh.length) F2 (cD0 F2 hA2)
        refine k (τ.wr A 1 (Rf.ptr σ.sh.length)) F3 q1 (fun a ha => ⟨(q2 a ha).1, (q2 a ha).2.1, fun j hj => ?_⟩) (up_same _ _ _ _) (fun i v q => ?_) (fun i hi => ?_)
        · show up _ _ _ _ _ _ = _
          rw [up_ne hj, (q2 a ha).2.2]
        · show up _ _ _ _ _ _ = _
          rw [up_ne (by omega), q3 i (by have := (List.getElem?_eq_some_iff.mp q).1; omega)]
          exact e1 i v q
        · show up _ _ _ _ _ _ = _
          rw [up_ne (by omega), q4 i hi]
    refine S_Jx4a65c_grow_92f84_0 (d := d + 2) F ⟨h1, Or.inl ⟨b, r, cap, s, fun _ => hgo, fun q => Or.inl ⟨b, r, hgo⟩⟩⟩
theorem ls_add (F : FX ΦR σ.sh σ.r) (h : LsS σ A lst cap) (hc : cap ≤ 1000000) (hv : σ.sh[v]? = some (Sh.obj 21)) (hn : v ∉ lst) (hK : ∀ τ cap', FX ΦR τ.sh τ.r → LsS τ A (lst ++ [v]) cap' → FrL σ τ A lst cap cap' → K (.inl (some (.int 1))) τ) : B_Jx4a65c_add_9ea2d_0 Z (d + 6) σ A (Rf.ptr v) K := by
  have h0 := h
  obtain ⟨h1, h2, h3, h4, h5, h6⟩ := h
  have hA : A < σ.sh.length := (List.getElem?_eq_some_iff.mp h1).1
  have hvl : v < σ.sh.length := (List.getElem?_eq_some_iff.mp hv).1
  have hvA : v ≠ A := fun q => by
    rw [q, h1] at hv
    cases hv
  refine S_Jx4a65c_add_9ea2d_0 (d := d + 5) F ⟨h1, ?_⟩
  have e2 : (σ.wi A 0 (σ.i A 0 + 1)).i A 2 = Int32.ofNat lst.length := (up_ne (by omega)).trans h2
  rw [e2]
  have hnd : (lst ++ [v]).Nodup := by
    rw [List.nodup_append]
    refine ⟨h5, List.nodup_cons.mpr ⟨List.not_mem_nil, List.nodup_nil⟩, fun a ha b hb => ?_⟩
    rw [List.mem_singleton] at hb
    subst hb
    exact fun q => hn (q ▸ ha)
  -- what is written at the end
  have fin : ∀ (τ : Sg) (b c' : Nat), FX ΦR τ.sh τ.r → τ.sh[b]? = some (Sh.arr 14 c') → τ.sh[A]? = some (Sh.obj 0) → (∀ u ∈ lst, τ.sh[u]? = some (Sh.obj 21)) → τ.sh[v]? = some (Sh.obj 21) → lst.length < c' → τ.r A 1 = Rf.ptr b → (∀ i u, lst[i]? = some u → τ.r b i = Rf.ptr u) → (∀ i, lst.length ≤ i → i < c' → τ.r b i = Rf.nul) → LsS ((τ.wr b lst.length (Rf.ptr v)).wi A 2 (Int32.ofNat (lst.length + 1))) A (lst ++ [v]) c' ∧ FX ΦR (τ.wr b lst.length (Rf.ptr v)).sh (τ.wr b lst.length (Rf.ptr v)).r := by
    intro τ b c' Ft hb hA2 hl hv2 hlt hr i1 i2
    have hbA : A ≠ b := fun q => by
      rw [q, hb] at hA2
      cases hA2
    refine ⟨⟨hA2, ?_, ?_, ?_, hnd, Or.inr ⟨b, by omega, ?_, hb, ?_, ?_⟩⟩, FX.w (a := b) (k := lst.length) (v := Rf.ptr v) Ft (cD14 Ft hb)⟩
    · rw [List.length_append]
      exact up_same _ _ _ _
    · rw [List.length_append]
      show lst.length + 1 ≤ c'
      omega
    · intro u hu
      rcases List.mem_append.mp hu with q | q
      · exact hl u q
      · rw [List.mem_singleton] at q
        rw [q]
        exact hv2
    · show up τ.r b lst.length (Rf.ptr v) A 1 = _
      rw [up_ne (fun q => hbA q.1)]
      exact hr
    · intro i u hu
      show up τ.r b lst.length (Rf.ptr v) b i = _
      by_cases hi : i = lst.length
      · subst hi
        rw [List.getElem?_append_right (Nat.le_refl _), Nat.sub_self] at hu
        cases hu
        exact up_same _ _ _ _
      · rw [up_ne (fun q => hi q.2)]
        have hil : i < (lst ++ [v]).length := (List.getElem?_eq_some_iff.mp hu).1
        rw [List.length_append] at hil
        have hil : i < lst.length + 1 := hil
        rw [List.getElem?_append_left (by omega)] at hu
        exact i1 i u hu
    · intro i q1 q2
      rw [List.length_append] at q1
      have q1 : lst.length + 1 ≤ i := q1
      show up τ.r b lst.length (Rf.ptr v) b i = _
      rw [up_ne (by omega)]
      exact i2 i (by omega) q2
  have en : (Int32.ofNat lst.length).toNatClampNeg = lst.length := oN_t (by omega)
  have h0' : LsS (σ.wi A 0 (σ.i A 0 + 1)) A lst cap := h0.mono (fun _ _ q => q) (up_ne (by omega)) rfl (fun _ _ => rfl)
  by_cases hfull : lst.length = cap
  · have hnx : cap < nxc cap := by
      unfold nxc
      split <;> omega
    have hnb : nxc cap ≤ 2147483648 := by
      unfold nxc
      split <;> omega
    have hgr : ∀ K' : kS, (∀ τ, FX ΦR τ.sh τ.r → LsS ((τ.wr σ.sh.length lst.length (Rf.ptr v)).wi A 2 (Int32.ofNat (lst.length + 1))) A (lst ++ [v]) (nxc cap) → FrL σ ((τ.wr σ.sh.length lst.length (Rf.ptr v)).wi A 2 (Int32.ofNat (lst.length + 1))) A lst cap (nxc cap) → FX ΦR (τ.wr σ.sh.length lst.length (Rf.ptr v)).sh (τ.wr σ.sh.length lst.length (Rf.ptr v)).r → τ.sh[σ.sh.length]? = some (Sh.arr 14 (nxc cap)) → τ.sh[v]? = some (Sh.obj 21) → τ.sh[A]? = some (Sh.obj 0) → K' (.inl (some (.ref σ.sh.length))) τ) → B_Jx4a65c_grow_d5877_0 Z (d + 4) (σ.wi A 0 (σ.i A 0 + 1)) A K' := by
      intro K' hk
      refine ls_grow F h0' hfull hc (fun τ Ft q1 q2 q3 q4 q5 => ?_)
      have q1 : τ.sh = σ.sh ++ [Sh.arr 14 (nxc cap)] := q1
      have sl : ∀ a s, σ.sh[a]? = some s → τ.sh[a]? = some s := fun a s q => by
        rw [q1, List.getElem?_append_left (List.getElem?_eq_some_iff.mp q).1]
        exact q
      have sn : τ.sh[σ.sh.length]? = some (Sh.arr 14 (nxc cap)) := by
        rw [q1, List.getElem?_append_right (Nat.le_refl _), Nat.sub_self]
        rfl
      obtain ⟨g1, g2⟩ := fin τ σ.sh.length (nxc cap) Ft sn (sl _ _ h1) (fun u hu => sl _ _ (h4 u hu)) (sl _ _ hv) (by omega) q3 q4 (fun i w1 w2 => q5 i (by omega))
      refine hk τ Ft g1 ⟨fun a ha hne => ?_, fun a ha => ?_, fun a ha hne hr => ?_, Or.inr ⟨q1, hfull, rfl, ?_⟩⟩ g2 sn (sl _ _ hv) (sl _ _ h1)
      · show up τ.i A 2 _ a = _
        rw [up_row hne, (q2 a ha).1]
        exact up_row hne
      · exact (q2 a ha).2.1
      · show up τ.r σ.sh.length _ _ a = _
        rw [up_row (by omega)]
        funext j
        exact (q2 a ha).2.2 j (fun q => hne q.1)
      · show up τ.r σ.sh.length _ _ A 1 = _
        rw [up_ne (by omega)]
        exact q3
    rcases h6 with ⟨c0, r⟩ | ⟨b, c0, r, s, e1, e3⟩
    · refine S_Jx4a65c_add_72be8_0 (d := d + 4) F (Or.inr ⟨r, fun q => ?_, fun _ => ⟨h1, ?_⟩⟩)
      · exact q (by rw [hfull, c0]; rfl)
      · refine hgr _ (fun τ Ft g1 g2 g3 g4 g5 g6 => Or.inl ⟨Rf.ptr _, rfl, _, rfl, _, g4, v, rfl, g5, ib_oN (by omega) hnb, g6, ?_⟩)
        rw [en, oN_1]
        exact hK _ _ g3 g1 g2
    · refine S_Jx4a65c_add_72be8_0 (d := d + 4) F (Or.inl ⟨b, r, cap, s, fun q => ?_, fun _ => ⟨h1, ?_⟩⟩)
      · exact absurd (by rw [hfull]) q
      · refine hgr _ (fun τ Ft g1 g2 g3 g4 g5 g6 => Or.inl ⟨Rf.ptr _, rfl, _, rfl, _, g4, v, rfl, g5, ib_oN (by omega) hnb, g6, ?_⟩)
        rw [en, oN_1]
        exact hK _ _ g3 g1 g2
  · rcases h6 with ⟨c0, r⟩ | ⟨b, c0, r, s, e1, e3⟩
    · omega
    · have hbA : b ≠ A := fun q => by
        rw [q, h1] at s
        cases s
      refine S_Jx4a65c_add_72be8_0 (d := d + 4) F (Or.inl ⟨b, r, cap, s, fun _ => ?_, fun q => ?_⟩)
      · refine ⟨v, rfl, hv, ib_oN (by omega) (by omega), h1, ?_⟩
        rw [en, oN_1]
        obtain ⟨g1, g2⟩ := fin (σ.wi A 0 (σ.i A 0 + 1)) b cap F s h1 h4 hv (by omega) r e1 e3
        refine hK _ _ g2 g1 ⟨fun a ha hne => ?_, fun a ha => rfl, fun a ha hne hr => ?_, Or.inl ⟨rfl, by omega, rfl, ?_⟩⟩
        · show up (up σ.i A 0 _) A 2 _ a = _
          rw [up_row hne, up_row hne]
        · show up σ.r b _ _ a = _
          rw [up_row (fun q => hr (r.trans (by rw [q])))]
        · show up σ.r b _ _ A 1 = _
          rw [up_ne (fun q => hbA q.1.symm)]
      · have := (oN_eq (by omega) (by omega)).mp q
        omega
theorem ls_get {n : Nat} (F : FX ΦR σ.sh σ.r) (h : LsS σ A lst cap) (hc : cap ≤ 1000000) (hv : lst[n]? = some v) (k : K (.inl (some (.ref v))) σ) : B_Jx4a65c_get_915e3_0 Z (d + 3) σ A (Int32.ofNat n) K := by
  obtain ⟨h1, h2, h3, h4, h5, h6⟩ := h
  have hnl : n < lst.length := (List.getElem?_eq_some_iff.mp hv).1
  refine S_Jx4a65c_get_915e3_0 (d := d + 2) F ⟨h1, ?_⟩
  rw [h2]
  refine S_J15_checkIndex_7cf53_0 (d := d + 1) F ?_
  refine S_J3_checkIndex_8e157_0 (d := d) F ⟨fun q => ?_, fun _ => ⟨fun _ => ⟨h1, ?_⟩, fun q => ?_⟩⟩
  · have := (oN_lt (b := 0) (by omega) (by omega)).mp q
    omega
  · rcases h6 with ⟨c0, r⟩ | ⟨b, c0, r, s, e1, e3⟩
    · omega
    · refine S_Jx4a65c_elementData_915e3_0 (d := d + 1) F ⟨h1, b, r, cap, s, ib_oN (by omega) (by omega), v, ?_, Or.inl ⟨Rf.ptr v, rfl, k⟩⟩
      rw [oN_t (by omega)]
      exact e1 n v hv
  · exact q ((oN_lt (by omega) (by omega)).mpr hnl)
/-- a new Node's fields -/
def NdN (τ : Sg) (v : Nat) (op : Int32) : Prop := τ.i v 0 = op ∧ τ.i v 1 = 0 ∧ τ.i v 2 = 0 ∧ τ.i v 3 = 0 ∧ τ.i v 4 = 0 ∧ τ.r v 5 = Rf.nul ∧ τ.r v 6 = Rf.nul ∧ τ.r v 7 = Rf.nul ∧ τ.r v 8 = Rf.nul ∧ τ.i v 9 = -1 ∧ τ.i v 10 = -1 ∧ τ.l v 11 = 0
/-- what get() does to all else: N the Nodes, v the Node -/
def FrG (σ τ : Sg) (N v : Nat) : Prop := (∀ a, a < σ.sh.length → a ≠ N → a ≠ N + 1 → a ≠ v → τ.i a = σ.i a ∧ (σ.r (N + 1) 1 ≠ Rf.ptr a → τ.r a = σ.r a)) ∧ (∀ a, a < σ.sh.length → a ≠ v → τ.l a = σ.l a) ∧ (τ.r (N + 1) 1 = σ.r (N + 1) 1 ∨ τ.r (N + 1) 1 = Rf.ptr (σ.sh.length + 1))
/-- the cells that get() makes -/
def GtX (n : Nat) (lst : List Nat) (cap : Nat) (lst' : List Nat) (cap' : Nat) (sh sh' : List Sh) : Prop := (n < lst.length ∧ lst' = lst ∧ cap' = cap ∧ sh' = sh) ∨ (n = lst.length ∧ lst' = lst ++ [sh.length] ∧ ((lst.length < cap ∧ cap' = cap ∧ sh' = sh ++ [Sh.obj 21]) ∨ (lst.length = cap ∧ cap' = nxc cap ∧ sh' = sh ++ [Sh.obj 21, Sh.arr 14 cap'])))
theorem rf_be {op : Int32} (F : FX ΦR σ.sh σ.r) (hv : σ.sh[v]? = some (Sh.obj 21)) (k : ∀ τ, FX ΦR τ.sh τ.r → τ.sh = σ.sh → NdN τ v op → (∀ a, a ≠ v → τ.i a = σ.i a ∧ τ.l a = σ.l a ∧ τ.r a = σ.r a) → K (.inl (some (.ref v))) τ) : B_X20_be_0 Z (d + 1) σ v op K := by
  refine S_X20_be_0 F ⟨hv, ?_⟩
  have c0 : ∀ k, ΦR.cst v k = false := fun k => cD (k := k) F hv rfl
  have F5 := FX.w (a := v) (k := 5) (v := Rf.nul) F (c0 5)
  have F6 := FX.w (a := v) (k := 6) (v := Rf.nul) F5 (c0 6)
  have F7 := FX.w (a := v) (k := 7) (v := Rf.nul) F6 (c0 7)
  have F8 := FX.w (a := v) (k := 8) (v := Rf.nul) F7 (c0 8)
  refine k _ F8 rfl ⟨?_, ?_, ?_, ?_, ?_, ?_, ?_, ?_, ?_, ?_, ?_, ?_⟩ (fun a ha => ⟨?_, ?_, ?_⟩)
  case refine_13 => exact (show up (up (up (up (up (up (up σ.i v 0 _) v 1 _) v 2 _) v 3 _) v 4 _) v 9 _) v 10 _ a = _ by rw [up_row ha, up_row ha, up_row ha, up_row ha, up_row ha, up_row ha, up_row ha])
  case refine_14 => exact up_row ha
  case refine_15 => exact (show up (up (up (up σ.r v 5 _) v 6 _) v 7 _) v 8 _ a = _ by rw [up_row ha, up_row ha, up_row ha, up_row ha])
  all_goals first
    | (show up (up (up (up (up (up (up σ.i v 0 _) v 1 _) v 2 _) v 3 _) v 4 _) v 9 _) v 10 _ v _ = _; simp [up]; done)
    | (show up (up (up (up σ.r v 5 _) v 6 _) v 7 _) v 8 _ v _ = _; simp [up]; done)
    | exact up_same _ _ _ _
variable {N : Nat}
theorem rf_get29 {n : Nat} {op : Int32} (F : FX ΦR σ.sh σ.r) (hN : sh0R[N]? = some (Sh.obj 22)) (h : LsS σ (N + 1) lst cap) (hc : cap ≤ 1000000) (hn : σ.i N 1 = Int32.ofNat n) (hv : lst[n]? = some v) (k : ∀ τ, FX ΦR τ.sh τ.r → τ.sh = σ.sh → LsS τ (N + 1) lst cap → τ.i N 1 = Int32.ofNat (n + 1) → NdN τ v op → (∀ a, a ≠ N → a ≠ v → τ.i a = σ.i a) → (∀ a, a ≠ v → τ.l a = σ.l a ∧ τ.r a = σ.r a) → K (.inl (some (.ref v))) τ) : B_X21_get_29 Z (d + 4) σ N op K := by
  have hv2 := h.2.2.2.1 v (List.mem_of_getElem? hv)
  have hNv : N ≠ v := fun q => by
    have := F.s hN
    rw [q, hv2] at this
    cases this
  have hN1v : N + 1 ≠ v := fun q => by
    have := h.1
    rw [q, hv2] at this
    cases this
  refine S_X21_get_29 (d := d + 3) F hN ?_
  have e : (σ.wi N 1 (σ.i N 1 + 1)).i N 1 - 1 = Int32.ofNat n := by
    rw [show (σ.wi N 1 (σ.i N 1 + 1)).i N 1 = σ.i N 1 + 1 from up_same _ _ _ _, hn, Int32.add_sub_cancel]
  rw [e]
  have h' : LsS (σ.wi N 1 (σ.i N 1 + 1)) (N + 1) lst cap := h.mono (fun _ _ q => q) (up_ne (by omega)) rfl (fun _ _ => rfl)
  refine ls_get (d := d) F h' hc hv (Or.inl ⟨Rf.ptr v, rfl, v, rfl, hv2, ?_⟩)
  refine rf_be (d := d + 2) F hv2 (fun τ Ft q1 q2 q3 => Or.inl ⟨Rf.ptr v, rfl, ?_⟩)
  refine k τ Ft q1 (h'.mono (fun a s q => by rw [q1]; exact q) (by rw [(q3 _ hN1v).1]) (by rw [(q3 _ hN1v).2.2]) (fun b hb => ?_)) ?_ q2 (fun a h1 h2 => ?_) (fun a h1 => ⟨(q3 a h1).2.1, (q3 a h1).2.2⟩)
  · refine (q3 b (fun q => ?_)).2.2
    rcases h.2.2.2.2.2 with ⟨_, r⟩ | ⟨b', _, r, s, _, _⟩
    · have := hb.symm.trans r
      cases this
    · have := hb.symm.trans r
      cases this
      rw [q, hv2] at s
      cases s
  · rw [(q3 N hNv).1]
    show up σ.i N 1 _ N 1 = _
    rw [up_same, hn, oN_1]
  · rw [(q3 a h2).1]
    exact up_row h1
theorem rf_get {n : Nat} {op : Int32} (F : FX ΦR σ.sh σ.r) (hN : sh0R[N]? = some (Sh.obj 22)) (h : LsS σ (N + 1) lst cap) (hc : cap ≤ 100000) (hn : σ.i N 1 = Int32.ofNat n) (hnl : n ≤ lst.length) (hK : ∀ τ lst' cap' v, FX ΦR τ.sh τ.r → LsS τ (N + 1) lst' cap' → lst'[n]? = some v → GtX n lst cap lst' cap' σ.sh τ.sh → τ.i N 1 = Int32.ofNat (n + 1) → NdN τ v op → FrG σ τ N v → K (.inl (some (.ref v))) τ) : B_X21_get_0 Z (d + 7) σ N op K := by
  refine S_X21_get_0 (d := d + 6) F hN ?_
  refine S_Jx4a65c_size_8abf5_0 (d := d + 5) F ⟨h.1, ?_⟩
  have hlc := h.2.2.1
  have hNl : N < 3365 := by
    have := (List.getElem?_eq_some_iff.mp hN).1
    have e : sh0R.length = 3365 := by decide +kernel
    omega
  have hge := sh_ge F
  have hN1l : N + 1 < σ.sh.length := (List.getElem?_eq_some_iff.mp h.1).1
  refine ⟨fun q => ?_, fun q => ?_⟩
  · rw [h.2.1, hn] at q
    have q : n ≠ lst.length := fun z => q (by rw [z])
    obtain ⟨v, hv⟩ : ∃ v, lst[n]? = some v := ⟨_, List.getElem?_eq_getElem (by omega)⟩
    refine rf_get29 (d := d + 3) F hN h (by omega) hn hv (fun τ Ft q1 q2 q3 q4 q5 q6 => hK τ lst cap v Ft q2 hv (Or.inl ⟨by omega, rfl, rfl, q1⟩) q3 q4 ⟨fun a h1 h2 h3 h4 => ⟨q5 a h2 h4, fun _ => (q6 a h4).2⟩, fun a h1 h2 => (q6 a h2).1, Or.inl ?_⟩)
    have hv2 := h.2.2.2.1 v (List.mem_of_getElem? hv)
    have hN1v : N + 1 ≠ v := fun q => by
      have := h.1
      rw [q, hv2] at this
      cases this
    rw [(q6 _ hN1v).2]
  · rw [h.2.1, hn] at q
    have q : n = lst.length := (oN_eq (by omega) (by omega)).mp q
    subst q
    have F1 : FX ΦR (σ.al (Sh.obj 21)).sh (σ.al (Sh.obj 21)).r := F.al hΦR
    refine S_X20_init_0 (d := d + 5) F1 ?_
    have hnm : σ.sh.length ∉ lst := fun hm => by
      have := (List.getElem?_eq_some_iff.mp (h.2.2.2.1 _ hm)).1
      omega
    have h' : LsS (σ.al (Sh.obj 21)) (N + 1) lst cap := h.mono (fun a s q => al_s q) (if_neg (by omega)) (if_neg (by omega)) (fun b hb => by
      rcases h.2.2.2.2.2 with ⟨_, r⟩ | ⟨b', _, r, s, _, _⟩
      · have := hb.symm.trans r
        cases this
      · have := hb.symm.trans r
        cases this
        have := (List.getElem?_eq_some_iff.mp s).1
        funext j
        exact if_neg (by omega))
    have hlen : (σ.al (Sh.obj 21)).sh.length = σ.sh.length + 1 := by
      show (σ.sh ++ [Sh.obj 21]).length = _
      rw [List.length_append]
      rfl
    refine ls_add (d := d) F1 h' (by omega) al_n hnm (fun τ cap' Ft L Fr => ?_)
    obtain ⟨f1, f2, f3, f4⟩ := Fr
    rw [hlen] at f1 f2 f3 f4
    have hcap' : cap' ≤ 1000000 := by
      have : nxc cap ≤ 200000 := by
        unfold nxc
        split <;> omega
      rcases f4 with q | q <;> omega
    refine rf_get29 (d := d + 3) (v := σ.sh.length) (lst := lst ++ [σ.sh.length]) (n := lst.length) Ft hN L hcap' ?_ ?_ (fun τ2 F2 q1 q2 q3 q4 q5 q6 => ?_)
    · rw [f1 N (by omega) (by omega)]
      exact (if_neg (by omega)).trans hn
    · rw [List.getElem?_append_right (Nat.le_refl _), Nat.sub_self]
      rfl
    · refine hK τ2 _ cap' σ.sh.length F2 q2 ?_ ?_ q3 q4 ⟨fun a h1 h2 h3 h4 => ⟨?_, fun h5 => ?_⟩, fun a h1 h2 => ?_, ?_⟩
      · rw [List.getElem?_append_right (Nat.le_refl _), Nat.sub_self]
        rfl
      · refine Or.inr ⟨rfl, rfl, ?_⟩
        rw [q1]
        rcases f4 with q | q
        · exact Or.inl ⟨q.2.1, q.2.2.1, q.1⟩
        · refine Or.inr ⟨q.2.1, q.2.2.1, ?_⟩
          rw [q.1]
          show (σ.sh ++ [Sh.obj 21]) ++ [Sh.arr 14 cap'] = _
          rw [List.append_assoc]
          rfl
      · rw [q5 a h2 h4, f1 a (by omega) h3]
        funext j
        exact if_neg (by omega)
      · rw [(q6 a h4).2, f3 a (by omega) h3 (fun z => h5 ?_)]
        · funext j
          exact if_neg (by omega)
        · exact ((if_neg (by omega) : (σ.al (Sh.obj 21)).r (N + 1) 1 = σ.r (N + 1) 1).symm.trans z)
      · rw [(q6 a h2).1, f2 a (by omega)]
        funext j
        exact if_neg (by omega)
      · rw [(q6 (N + 1) (by omega)).2]
        have e : (σ.al (Sh.obj 21)).r (N + 1) 1 = σ.r (N + 1) 1 := if_neg (by omega)
        rcases f4 with q | q
        · exact Or.inl (q.2.2.2.trans e)
        · exact Or.inr q.2.2.2
end NODES

/-- the word of a method's code -/
def ab_cwd (T : ab_GT) (y : Nat) (M : ab_MX) : Cond := match T.2.2.2 y with
  | some _ => Cond.codeWith (ab_my M.1) (ab_mc M.1) (ab_mL M.1) (ab_mr M.1) M.2
  | none => Cond.code (ab_my M.1) (ab_mc M.1) (ab_mL M.1) (ab_mr M.1)
/-- what a run that may throw says from the middle of a method -/
def ab_AX (l : Launch) (B : Nat × (Nat → Nat)) (D : va_G) (G : ab_G) (T : ab_GT) (TB : List Cond) (tys : List (ClassId × FieldType)) (cA : Nat → ClassId) (n : Nat) : Prop :=
  ∀ (d : Nat) (M : ab_MX), ((ab_OKm G TB M.1 ∨ (ab_mi M.1 = false ∧ (ab_Fd (ab_my M.1).cls (ab_mi M.1) TB (ab_gK G) (ab_gF G (ab_mo M.1) (ab_mi M.1)) ∧ ab_Cd (ab_my M.1).cls TB (ab_gK G) (ab_gC G (ab_mo M.1)) ∧ (∀ ix v, ab_gI G (ab_mo M.1) ix = some v → Cond.constant (ab_my M.1).cls ix v ∈ TB) ∧ (∀ ix v, ab_gL G (ab_mo M.1) ix = some v → Cond.constantLong (ab_my M.1).cls ix v ∈ TB)))) ∧ ab_OKc G TB M.1 ∧ ab_own G (ab_mo M.1) (ab_my M.1).cls) →
    ∀ (pc : Nat) (lv : ab_L) (st : List Value) (h hF : List ab_E) (r : ab_RX), ab_rx G T n d M pc lv st h = some (r, hF) →
    ∀ (mc ms n0 z0 : Nat), n0 + mc = hF.length → z0 + ms = ab_z hF → ∀ (p : Program) (e : Env) (s : State) (m : MethodId) (args : Array Value) (below : List Frame) (meth : Method) (c : Code),
      p.tables.exec = Jvm.exec → c.code = ab_mc M.1 → c.maxLocals = ab_mL M.1 → meth.sig.returnType = ab_mr M.1 → meth.locks = false → s.vm.findClass (ab_my M.1).cls = some m.cls → (ab_mi M.1 = true → meth.name = "<init>") → (∀ w ∈ TB, w.before args s = true) → va_K D (ab_gK G) tys s → ab_Xf B G TB cA s s.heap → ab_XT B G T TB s s.heap → c.exceptionTable.toList = tableOf M.2 → s.heap.size = B.1 + n0 →
      ∀ (H : Heap) (locs : List Loc) (cells slots : Nat) (ls : Array Slot), va_P D (ab_gK G) (ab_W B cA h) H → va_S (fun q : Nat => B.1 ≤ q) s.heap H locs → H.size = B.1 + h.length → n0 + cells = h.length → z0 + slots = ab_z h → lv_has ls (ab_mL M.1) (ab_rlL B lv) →
        W p l e (ab_R d mc ms) s m args below meth c H locs cells slots (vx_MQ below (ab_QX B D G cA r hF) (ab_XC B D G cA r hF) args s mc ms (fun q : Nat => B.1 ≤ q)) (F0 m pc ls (st.map (ab_rl B)))
/-- .. of a method, from its first instruction on -/
def ab_MXok (l : Launch) (B : Nat × (Nat → Nat)) (D : va_G) (G : ab_G) (T : ab_GT) (TB : List Cond) (tys : List (ClassId × FieldType)) (cA : Nat → ClassId) (n : Nat) : Prop :=
  ∀ (d y : Nat) (M : ab_MX), ab_mx G T y = some M → ∀ (As : List Value) (h hF : List ab_E) (r : ab_RX), ab_rx G T n d M 0 (lv_args 0 As) [] h = some (r, hF) → (lg_sl As).length ≤ ab_mL M.1 →
    vx_Met l (ab_my M.1) (ab_cwd T y M :: TB) (ab_R d (hF.length - h.length) (ab_z hF - ab_z h)) (ab_PX B D G T TB cA tys As h) (ab_QX B D G cA r hF) (ab_XC B D G cA r hF) (hF.length - h.length) (ab_z hF - ab_z h) (fun q : Nat => B.1 ≤ q)
section RXT
variable {l : Launch} {B : Nat × (Nat → Nat)} {D : va_G} {G : ab_G} {T : ab_GT} {TB : List Cond} {tys : List (ClassId × FieldType)} {cA : Nat → ClassId}
set_option maxHeartbeats 4000000 in
theorem ab_metx_of {n : Nat} (hOK : ab_OK G TB) (hOT : ab_OKt G T TB) (hA : ab_AX l B D G T TB tys cA n) : ab_MXok l B D G T TB tys cA n := by
  intro d y M hM As h hF r hs hlen
  obtain ⟨z1, z2⟩ := ab_rx_z _ _ _ _ _ _ _ _ _ hs
  have hl0 := lv_entry (As.map (ab_rl B)) (n := ab_mL M.1) (by rw [ab_sl_rl]; exact hlen)
  rw [ab_args_rl] at hl0
  unfold ab_mx at hM
  cases hy : T.2.2.2 y with
  | none =>
    rw [hy] at hM
    obtain ⟨M0, hM0, e0⟩ := Option.map_eq_some_iff.mp hM
    subst e0
    obtain ⟨hm, hcl⟩ := hOK.2.2 y M0 hM0
    obtain ⟨k1, k2, k3, k4, k5⟩ := hm
    have ecw : ab_cwd T y (M0, []) = Cond.code (ab_my M0) (ab_mc M0) (ab_mL M0) (ab_mr M0) := by
      unfold ab_cwd
      rw [hy]
    rw [ecw]
    refine vx_ofW (cc := ab_mc M0) (maxL := ab_mL M0) (ret := ab_mr M0) k2 rfl ?_
    intro p e s m args below meth c s₁ BL hml htb hv
    obtain ⟨⟨rfl, hsz, hP, hK, hX⟩, hXT⟩ := hv
    have hts0 := atoms_spec (ws := Cond.code (ab_my M0) (ab_mc M0) (ab_mL M0) (ab_mr M0) :: TB) BL.pre
    have hts : ∀ w ∈ TB, w.before ((As.map (ab_rl B)).toArray) s = true := fun w hw => hts0 w (List.mem_cons_of_mem _ hw)
    have hown : s.vm.findClass (ab_my M0).cls = some m.cls := findClass_of_methodNamed BL.named
    have hin : ab_mi M0 = true → meth.name = "<init>" := fun q => ((name_of_methodNamed BL.named BL.method).1).trans (k4 q)
    rw [lg_entry_eq]
    exact hA d (M0, []) ⟨Or.inl ⟨k1, k2, k3, k4, k5⟩, hcl, Or.inl ⟨y, M0, hM0, rfl, rfl⟩⟩ 0 (lv_args 0 As) [] h hF r hs (hF.length - h.length) (ab_z hF - ab_z h) h.length (ab_z h) (by omega) (by omega) p e s m _ below meth c BL.exec BL.bytes hml BL.returns BL.notSynchronized hown hin hts hK hX hXT (List.eq_nil_iff_forall_not_mem.mpr fun x hx => htb x hx) hsz s.heap [] 0 0 _ hP va_S.rf hsz rfl rfl hl0
  | some M0 =>
    rw [hy] at hM
    cases hM
    obtain ⟨⟨k1, k2, k3, k4⟩, k5, k6, k7⟩ := hOT.1 y M hy
    have ecw : ab_cwd T y M = Cond.codeWith (ab_my M.1) (ab_mc M.1) (ab_mL M.1) (ab_mr M.1) M.2 := by
      unfold ab_cwd
      rw [hy]
    rw [ecw]
    refine vx_ofWH (cc := ab_mc M.1) (maxL := ab_mL M.1) (ret := ab_mr M.1) (hh := M.2) k2 rfl ?_
    intro p e s m args below meth c s₁ BL hml hv
    obtain ⟨⟨rfl, hsz, hP, hK, hX⟩, hXT⟩ := hv
    have hts0 := atoms_spec (ws := Cond.codeWith (ab_my M.1) (ab_mc M.1) (ab_mL M.1) (ab_mr M.1) M.2 :: TB) BL.pre
    have hts : ∀ w ∈ TB, w.before ((As.map (ab_rl B)).toArray) s = true := fun w hw => hts0 w (List.mem_cons_of_mem _ hw)
    have hown : s.vm.findClass (ab_my M.1).cls = some m.cls := findClass_of_methodNamed BL.named
    rw [lg_entry_eq]
    exact hA d M ⟨Or.inr ⟨k5, k6⟩, k7, k4⟩ 0 (lv_args 0 As) [] h hF r hs (hF.length - h.length) (ab_z hF - ab_z h) h.length (ab_z h) (by omega) (by omega) p e s m _ below meth c BL.exec BL.bytes hml BL.returns BL.notSynchronized hown (fun q => by rw [k5] at q; cases q) hts hK hX hXT (vx_table (x := ab_my M.1) BL (hts0 _ List.mem_cons_self)) hsz s.heap [] 0 0 _ hP va_S.rf hsz rfl rfl hl0
/-- a contract without throws, where the run returns -/
theorem ab_met_ret {y : MethodName} {ws : List Cond} {rm : Room} {Pc : Array Value → State → Prop} {mc ms : Nat} {free : Addr → Prop} {v : Option Value} {hF : List ab_E} (h : vx_Met l y ws rm Pc (ab_QX B D G cA (.inl v) hF) (ab_XC B D G cA (.inl v) hF) mc ms free) : Met l y ws rm Pc (ab_Qc B D G cA v hF) mc ms free := by
  intro p e h1 h2 h3 s m args below h4 h5 h6 h7
  obtain ⟨n, o, g1, g2, g3, g4⟩ := h p e h1 h2 h3 s m args below h4 h5 h6 h7
  refine ⟨n, o, g1, g2, g3, ?_⟩
  rcases g4 with ⟨⟨v', e1, q1⟩, q2⟩ | ⟨q, -, E, ce, L, ⟨q', e2, -⟩, -⟩
  · cases e1
    exact ⟨q1, q2⟩
  · cases e2
set_option maxHeartbeats 8000000 in
theorem ab_tiex (hOK : ab_OK G TB) (hOT : ab_OKt G T TB) (hT : ab_Ty cA (ab_gO G) tys) (hst : l.stackTraces = false) : ∀ n : Nat, ab_AX l B D G T TB tys cA n
  | 0 => by
    intro d M hM pc lv st h hF r hs
    cases hs
  | n + 1 => by
    have ih := ab_tiex hOK hOT hT hst n
    have ihm := ab_metx_of hOK hOT ih
    intro d M hM pc lv st h hF r hs mc ms n0 z0 hmc hms p e s m args below meth c hx hb hml hr hlocks hown hin hts hK hX hXT htab hs0 H locs cells slots ls hP hS hz hc hsl hl
    obtain ⟨hm0, hcl, ho⟩ := id hM
    have hlk : ∀ (ct : Nat) (nm : String), T.2.1 (ab_mo M.1) ct = some nm → (Cond.classLink (ab_my M.1).cls ct nm).before args s = true := fun ct nm q => hts _ (hOT.2.2 _ _ ho ct nm q)
    -- what is thrown at pc: caught or not
    have thrown : ∀ (d : Nat) (E : String) (q : Nat) (h' : List ab_E) (H1 : Heap) (locs1 : List Loc) (cells1 slots1 : Nat) (ce : Cell) (rest : List Value), (match ab_hd T (ab_mo M.1) E pc M.2 with
        | some (some hp) => ab_rx G T n d M hp lv [.ref q] h'
        | some none => some (.inr (E, q), h')
        | none => none) = some (r, hF) → va_P D (ab_gK G) (ab_W B cA h') H1 → va_S (fun q : Nat => B.1 ≤ q) s.heap H1 locs1 → H1.size = B.1 + h'.length → n0 + cells1 = h'.length → z0 + slots1 = ab_z h' → H1[B.1 + q]? = some ce → ce.vm = .none → s.vm.findClass E = some ce.cls →
        vx_W p l e (ab_R d mc ms) s m args below meth c H1 locs1 cells1 slots1 (vx_MQ below (ab_QX B D G cA r hF) (ab_XC B D G cA r hF) args s mc ms (fun q : Nat => B.1 ≤ q)) (F0 m pc ls rest) (B.1 + q) := by
      intro d E q h' H1 locs1 cells1 slots1 ce rest hq b1 b2 b3 b4 b5 c1 c2 c3
      split at hq
      · rename_i hp hh
        obtain ⟨pre, x, suf, i1, i2, i3, i4, i5⟩ := ab_hd_ok (pc := pc) hlk hXT M.2 _ hh
        refine ab_caught hown (htab.trans i1) i2 i3 i4 i5 c1 c2 c3 ?_
        exact ih d M hM hp lv [.ref q] h' hF r hq mc ms n0 z0 hmc hms p e s m args below meth c hx hb hml hr hlocks hown hin hts hK hX hXT htab hs0 H1 locs1 cells1 slots1 ls b1 b2 b3 b4 b5 hl
      · rename_i hh
        cases hq
        have i1 := ab_hd_ok (pc := pc) hlk hXT M.2 _ hh
        exact vx_outP (own := (ab_my M.1).cls) hown hlocks (by rw [htab]; exact i1) c1 c2 c3 (fun t ht _ => ⟨q, rfl, rfl, by rw [ht]; exact b3, by rw [ht]; exact b1, b2.F ht⟩) b2.2.2 (by omega) (by omega)
      · cases hq
    unfold ab_rx at hs
    split at hs
    · cases hs
    · rename_i i k hdg
      split at hs
      · rename_i pc' lv' st' h' h1
        obtain ⟨a1, a2⟩ := ab_rx_z _ _ _ _ _ _ _ _ _ hs
        have hm1 : ab_Fd (ab_my M.1).cls (ab_mi M.1) TB (ab_gK G) (ab_gF G (ab_mo M.1) (ab_mi M.1)) ∧ ab_Cd (ab_my M.1).cls TB (ab_gK G) (ab_gC G (ab_mo M.1)) ∧ (∀ ix v, ab_gI G (ab_mo M.1) ix = some v → Cond.constant (ab_my M.1).cls ix v ∈ TB) ∧ (∀ ix v, ab_gL G (ab_mo M.1) ix = some v → Cond.constantLong (ab_my M.1).cls ix v ∈ TB) := by
          rcases hm0 with q | q
          · exact q.2.2.2.2
          · exact q.2
        refine ab_stepx_ok (R := ab_R d mc ms) hx hb hown hin hts hm1 hOK.2.1 hT hK ho hX hs0 hdg h1 (by show h'.length ≤ n0 + mc; omega) (by show ab_z h' ≤ z0 + ms; omega) hP hS hz hc hsl hl ?_
        intro H1 locs1 cells1 slots1 ls1 b1 b2 b3 b4 b5 b6
        exact ih d M hM pc' lv' st' h' hF r hs mc ms n0 z0 hmc hms p e s m args below meth c hx hb hml hr hlocks hown hin hts hK hX hXT htab hs0 H1 locs1 cells1 slots1 ls1 b1 b2 b3 b4 b5 b6
      · split at hs
        · rename_i r' h1
          cases hs
          have e1 : cells = mc := by omega
          have e2 : slots = ms := by omega
          subst e1
          subst e2
          intro T9 hT9 X9
          obtain ⟨t, a1, oo, b1, b2, b3, b4⟩ := ab_ret_ok (l := l) (R := ab_R d cells slots) (below := below) (D := D) (G := G) (cA := cA) (cells := cells) (slots := slots) hx hb hr hlocks hdg h1 hP hS hz T9 hT9 X9
          exact ⟨t, a1, oo, b1, b2, Or.inl ⟨⟨r', rfl, b3⟩, b4⟩⟩
        · split at hs
          · cases hs
          · rename_i d'
            split at hs
            · rename_i r2 h1
              unfold ab_obi at h1
              split at h1
              · rename_i ix a r3
                split at h1
                · rename_i hgt
                  split at h1
                  · rename_i hcat
                    cases h1
                    obtain ⟨w1, w2, w3⟩ := (hcl _ _ _ _ _ hgt).1 rfl
                    refine W.objInit hx hb hown (hts _ w1) (hts _ w2) (hts _ w3) rfl (by rw [hml]; exact hl.1) rfl hdg (by show 1 ≤ d' + 1; omega) ?_ ?_
                    · exact Nat.le_trans (Nat.add_le_add_right (lv_room (st := r2.map (ab_rl B)) (by rw [ab_cat_rl]; exact hcat)) 12) (by show 8 + 12 ≤ 40 * (d' + 1); omega)
                    · exact ih (d' + 1) M hM (pc + 3) lv r2 h hF r hs mc ms n0 z0 hmc hms p e s m args below meth c hx hb hml hr hlocks hown hin hts hK hX hXT htab hs0 H locs cells slots ls hP hS hz hc hsl hl
                  · cases h1
                · cases h1
              · cases h1
            · split at hs
              · rename_i r2 h' h1
                obtain ⟨q1, q2⟩ := ab_cpy_z h1
                obtain ⟨a3, a4⟩ := ab_rx_z _ _ _ _ _ _ _ _ _ hs
                unfold ab_cpy at h1
                split at h1
                · split at h1
                  · rename_i hgt
                    split at h1
                    · rename_i h9
                      cases h1
                      refine ab_cp_ok (R := ab_R (d' + 1) mc ms) hx hb (hml.trans hl.1.symm) hts hown hT hK hP hS hdg ((hcl _ _ _ _ _ hgt).2.1 rfl) h9 (by show 1 ≤ d' + 1; omega) (by show 40 ≤ 40 * (d' + 1); omega) (fun H1 locs1 b1 b2 b3 => ab_size (fun b4 => ?_))
                      exact ih (d' + 1) M hM (pc + 3) lv r2 h' hF r hs mc ms n0 z0 hmc hms p e s m args below meth c hx hb hml hr hlocks hown hin hts hK hX hXT htab hs0 H1 locs1 cells slots ls b1 b2 (by omega) (by omega) (by omega) hl
                    · refine ab_cq_ok (R := ab_R (d' + 1) mc ms) hx hb (hml.trans hl.1.symm) hts hown hX hT hK hP hS hdg ((hcl _ _ _ _ _ hgt).2.1 rfl) h1 (by show 1 ≤ d' + 1; omega) (by show 40 ≤ 40 * (d' + 1); omega) (fun H1 locs1 b1 b2 b3 => ab_size (fun b4 => ?_))
                      exact ih (d' + 1) M hM (pc + 3) lv r2 h' hF r hs mc ms n0 z0 hmc hms p e s m args below meth c hx hb hml hr hlocks hown hin hts hK hX hXT htab hs0 H1 locs1 cells slots ls b1 b2 (by omega) (by omega) (by omega) hl
                  · rename_i hgt
                    obtain ⟨⟨x9, y9, r9⟩, g1, g2⟩ := Option.bind_eq_some_iff.mp h1
                    cases g2
                    obtain ⟨rfl, hcat⟩ := ab_mI_eq g1
                    obtain ⟨w1, w2, w3, w4⟩ := (hcl _ _ _ _ _ hgt).2.2.1 rfl
                    exact va_mmax (R := ab_R (d' + 1) mc ms) hx hb (hml.trans hl.1.symm) hown (hts _ w1) (hts _ w2) (hts _ w3) (hts _ w4) (by show 1 ≤ d' + 1; omega) (by rw [ab_cat_rl]; show _ ≤ 40 * (d' + 1); omega) (by show cells ≤ mc; omega) (by show slots ≤ ms; omega) hdg (ih (d' + 1) M hM (pc + 3) lv _ _ hF r hs mc ms n0 z0 hmc hms p e s m args below meth c hx hb hml hr hlocks hown hin hts hK hX hXT htab hs0 H locs cells slots ls hP hS hz hc hsl hl)
                  · rename_i hgt
                    obtain ⟨⟨x9, y9, r9⟩, g1, g2⟩ := Option.bind_eq_some_iff.mp h1
                    cases g2
                    obtain ⟨rfl, hcat⟩ := ab_mI_eq g1
                    obtain ⟨w1, w2, w3, w4⟩ := (hcl _ _ _ _ _ hgt).2.2.2.1 rfl
                    exact va_mmin (R := ab_R (d' + 1) mc ms) hx hb (hml.trans hl.1.symm) hown (hts _ w1) (hts _ w2) (hts _ w3) (hts _ w4) (by show 1 ≤ d' + 1; omega) (by rw [ab_cat_rl]; show _ ≤ 40 * (d' + 1); omega) (by show cells ≤ mc; omega) (by show slots ≤ ms; omega) hdg (ih (d' + 1) M hM (pc + 3) lv _ _ hF r hs mc ms n0 z0 hmc hms p e s m args below meth c hx hb hml hr hlocks hown hin hts hK hX hXT htab hs0 H locs cells slots ls hP hS hz hc hsl hl)
                  · rename_i hgt
                    obtain ⟨⟨x9, y9, r9⟩, g1, g2⟩ := Option.bind_eq_some_iff.mp h1
                    cases g2
                    obtain ⟨rfl, hcat⟩ := ab_mJ_eq g1
                    obtain ⟨w1, w2, w3, w4⟩ := (hcl _ _ _ _ _ hgt).2.2.2.2.1 rfl
                    exact va_mmin_long (R := ab_R (d' + 1) mc ms) hx hb (hml.trans hl.1.symm) hown (hts _ w1) (hts _ w2) (hts _ w3) (hts _ w4) (by show 1 ≤ d' + 1; omega) (by rw [ab_cat_rl]; show _ ≤ 40 * (d' + 1); omega) (by show cells ≤ mc; omega) (by show slots ≤ ms; omega) hdg (ih (d' + 1) M hM (pc + 3) lv _ _ hF r hs mc ms n0 z0 hmc hms p e s m args below meth c hx hb hml hr hlocks hown hin hts hK hX hXT htab hs0 H locs cells slots ls hP hS hz hc hsl hl)
                  · cases h1
                · split at h1
                  · rename_i hgt
                    split at h1
                    · rename_i ha9
                      split at h1
                      · rename_i hu9
                        obtain ⟨ho9, hu, hcat⟩ := hu9
                        subst hu
                        rw [ho9] at hgt
                        cases h1
                        exact ab_gc_ok (R := ab_R (d' + 1) mc ms) hx hb (hml.trans hl.1.symm) hts hown (by rw [← ho9]; exact ho) hX hT hK hP hgt ha9 hcat hdg (by show 1 ≤ d' + 1; omega) (by show 40 ≤ 40 * (d' + 1); omega) (ih (d' + 1) M hM (pc + 3) lv _ h hF r hs mc ms n0 z0 hmc hms p e s m args below meth c hx hb hml hr hlocks hown hin hts hK hX hXT htab hs0 H locs cells slots ls hP hS hz hc hsl hl)
                      · cases h1
                    · cases h1
                  · cases h1
                · cases h1
              · split at hs
                · rename_i y' As rest h1
                  split at hs
                  · cases hs
                  · rename_i M' hM'
                    split at hs
                    · rename_i hlen
                      have hPre : ∀ U : State, U.heap = H → s.WarmedH U.vm → ab_PX B D G T TB cA tys As h (As.map (ab_rl B)).toArray U := fun U hU hW => ⟨⟨rfl, by rw [hU]; exact hz, by rw [hU]; exact hP, va_K.moved hW.alike hK, by rw [hU]; exact hX.to hW hS.2.1⟩, by rw [hU]; exact hXT.to hW hS.2.1⟩
                      have hback : ∀ (v : Option Value) (h' : List ab_E), ab_rx G T n (d' + 1) M (pc + 3) lv (v.toList ++ rest) h' = some (r, hF) → ∀ (cells1 slots1 : Nat), n0 + cells1 = h'.length → z0 + slots1 = ab_z h' → ∀ (H1 : Heap) (locs1 : List Loc), va_P D (ab_gK G) (ab_W B cA h') H1 → va_S (fun q : Nat => B.1 ≤ q) s.heap H1 locs1 → H1.size = B.1 + h'.length →
                          W p l e (ab_R (d' + 1) mc ms) s m args below meth c H1 locs1 cells1 slots1 (vx_MQ below (ab_QX B D G cA r hF) (ab_XC B D G cA r hF) args s mc ms (fun q : Nat => B.1 ≤ q)) (F0 m (pc + 3) ls ((v.toList ++ rest).map (ab_rl B))) := fun v h' hq cells1 slots1 f1 f2 H1 locs1 b1 b2 b3 => ih (d' + 1) M hM (pc + 3) lv (v.toList ++ rest) h' hF r hq mc ms n0 z0 hmc hms p e s m args below meth c hx hb hml hr hlocks hown hin hts hK hX hXT htab hs0 H1 locs1 _ _ ls b1 b2 b3 f1 f2 hl
                      have hrv : ∀ v : Option Value, (v.map (ab_rl B)).toList ++ rest.map (ab_rl B) = (v.toList ++ rest).map (ab_rl B) := fun v => by
                        rw [List.map_append]
                        cases v <;> rfl
                      split at hs
                      · cases hs
                      · rename_i v h' h2
                        obtain ⟨a1, a2⟩ := ab_rx_z _ _ _ _ _ _ _ _ _ h2
                        obtain ⟨a3, a4⟩ := ab_rx_z _ _ _ _ _ _ _ _ _ hs
                        have hmet := ihm d' y' M' hM' As h h' (.inl v) h2 hlen
                        unfold ab_mx at hM'
                        cases hy : T.2.2.2 y' with
                        | none =>
                          rw [hy] at hM'
                          obtain ⟨M0, hM0, e0⟩ := Option.map_eq_some_iff.mp hM'
                          subst e0
                          have ecw : ab_cwd T y' (M0, []) = Cond.code (ab_my M0) (ab_mc M0) (ab_mL M0) (ab_mr M0) := by
                            unfold ab_cwd
                            rw [hy]
                          rw [ecw] at hmet
                          refine ab_callg_ok (R := ab_R (d' + 1) mc ms) (d := d') (mc := h'.length - h.length) (ms := ab_z h' - ab_z h) hx hb hml hown hts hOK.1 hcl hK ho hX hdg h1 hM0 (hOK.2.2 y' M0 hM0).1 (Nat.le_refl _) (by show 40 * d' + 40 ≤ 40 * (d' + 1); omega) (by show cells + (h'.length - h.length) ≤ mc; omega) (by show slots + (ab_z h' - ab_z h) ≤ ms; omega) (ab_blindx As h) hPre (ab_met_ret hmet) hP hS hz hl.1 ?_
                          intro H1 locs1 b1 b2 b3
                          exact hback v h' hs _ _ (by omega) (by omega) H1 locs1 b1 b2 b3
                        | some M0 =>
                          rw [hy] at hM'
                          cases hM'
                          have ecw : ab_cwd T y' M' = Cond.codeWith (ab_my M'.1) (ab_mc M'.1) (ab_mL M'.1) (ab_mr M'.1) M'.2 := by
                            unfold ab_cwd
                            rw [hy]
                          rw [ecw] at hmet
                          refine ab_behx (ab_callt_ok (R := ab_R (d' + 1) mc ms) (d := d') (mc := h'.length - h.length) (ms := ab_z h' - ab_z h) hx hb hml hown hts hOK.1 hOT hK ho hdg h1 hy (Nat.le_refl _) (by show 40 * d' + 40 ≤ 40 * (d' + 1); omega) (by show cells + (h'.length - h.length) ≤ mc; omega) (by show slots + (ab_z h' - ab_z h) ≤ ms; omega) (ab_blindx As h) hPre hmet hP hl.1) hS (fun v1 e1 H1 locs1 b1 b2 b3 => ?_) (fun E q e1 => by cases e1)
                          cases e1
                          rw [hrv]
                          exact hback v h' hs _ _ (by omega) (by omega) H1 locs1 b1 b2 b3
                      · rename_i E q h' h2
                        obtain ⟨a1, a2⟩ := ab_rx_z _ _ _ _ _ _ _ _ _ h2
                        split at hs
                        · cases hs
                        · rename_i hsp
                          have a34 : h'.length ≤ hF.length ∧ ab_z h' ≤ ab_z hF := by
                            revert hs
                            split
                            · intro hs
                              exact ab_rx_z _ _ _ _ _ _ _ _ _ hs
                            · intro hs
                              cases hs
                              exact ⟨Nat.le_refl _, Nat.le_refl _⟩
                            · intro hs
                              cases hs
                          obtain ⟨a3, a4⟩ := a34
                          have hmet := ihm d' y' M' hM' As h h' (.inr (E, q)) h2 hlen
                          unfold ab_mx at hM'
                          cases hy : T.2.2.2 y' with
                          | none =>
                            rw [hy] at hM'
                            obtain ⟨M0, hM0, e0⟩ := Option.map_eq_some_iff.mp hM'
                            subst e0
                            have ecw : ab_cwd T y' (M0, []) = Cond.code (ab_my M0) (ab_mc M0) (ab_mL M0) (ab_mr M0) := by
                              unfold ab_cwd
                              rw [hy]
                            rw [ecw] at hmet
                            refine ab_behx (ab_callx_ok (R := ab_R (d' + 1) mc ms) (d := d') (mc := h'.length - h.length) (ms := ab_z h' - ab_z h) hx hb hml hown hts hOK.1 hcl hK hX hdg (by rw [← Bool.not_eq_true]; exact hsp) h1 hM0 (hOK.2.2 y' M0 hM0).1 (Nat.le_refl _) (by show 40 * d' + 40 ≤ 40 * (d' + 1); omega) (by show cells + (h'.length - h.length) ≤ mc; omega) (by show slots + (ab_z h' - ab_z h) ≤ ms; omega) (ab_blindx As h) hPre hmet hP hS hl.1) hS (fun v1 e1 => by cases e1) (fun E1 q1 e1 H1 locs1 ce b1 b2 b3 c1 c2 c3 => ?_)
                            cases e1
                            exact thrown (d' + 1) E q h' H1 locs1 _ _ ce _ hs b1 b2 b3 (by omega) (by omega) c1 c2 c3
                          | some M0 =>
                            rw [hy] at hM'
                            cases hM'
                            have ecw : ab_cwd T y' M' = Cond.codeWith (ab_my M'.1) (ab_mc M'.1) (ab_mL M'.1) (ab_mr M'.1) M'.2 := by
                              unfold ab_cwd
                              rw [hy]
                            rw [ecw] at hmet
                            refine ab_behx (ab_callt_ok (R := ab_R (d' + 1) mc ms) (d := d') (mc := h'.length - h.length) (ms := ab_z h' - ab_z h) hx hb hml hown hts hOK.1 hOT hK ho hdg h1 hy (Nat.le_refl _) (by show 40 * d' + 40 ≤ 40 * (d' + 1); omega) (by show cells + (h'.length - h.length) ≤ mc; omega) (by show slots + (ab_z h' - ab_z h) ≤ ms; omega) (ab_blindx As h) hPre hmet hP hl.1) hS (fun v1 e1 => by cases e1) (fun E1 q1 e1 H1 locs1 ce b1 b2 b3 c1 c2 c3 => ?_)
                            cases e1
                            exact thrown (d' + 1) E q h' H1 locs1 _ _ ce _ hs b1 b2 b3 (by omega) (by omega) c1 c2 c3
                    · cases hs
                · split at hs
                  · rename_i E q h1
                    unfold ab_ath at h1
                    split at h1
                    · split at h1
                      · rename_i ci fs ha
                        obtain ⟨z9, g1, g2⟩ := Option.map_eq_some_iff.mp h1
                        cases g2
                        obtain ⟨j0, hj0⟩ := ab_W_at (B := B) (cA := cA) ha rfl
                        obtain ⟨r', hr', cellV, f1, f2, f3, -⟩ := hP j0 _ hj0
                        have hcls := (hK.1 ci z9 g1).2
                        refine ab_athrow hx hb hdg ?_
                        exact thrown (d' + 1) _ _ h H locs cells slots cellV _ hs hP hS hz hc hsl f1 f3 (by rw [f2]; exact hcls.1)
                      · cases h1
                    · cases h1
                  · split at hs
                    · rename_i cls h1
                      split at hs
                      · rename_i hd8
                        cases hs
                        unfold ab_thr at h1
                        split at h1
                        · split at h1
                          · rename_i ic d3 d4 d7
                            split at h1
                            · rename_i hall
                              obtain ⟨names, g1, g2, g3, g4, g5, g6⟩ := hXT.2.2.1 _ _ ho _ _ _ h1
                              have hF1 : (h ++ [(.inl 6 : ab_E)]).length = h.length + 1 := by rw [List.length_append]; rfl
                              have hF2 : ab_z (h ++ [(.inl 6 : ab_E)]) = ab_z h + 6 := by rw [ab_z_app]; rfl
                              refine vx_throw0 (ls := ls) (names := names) (A := fun q : Nat => B.1 ≤ q) (ic := ic) (cls := cls) (own := (ab_my M.1).cls) hx hb hst hown g2 g3 (hts _ g4) (hts _ g5) (fun w hw => ?_) (fun w hw => ?_) hXT.2.2.2.1 hXT.2.2.2.2 hS (by rw [hml]; exact hl.1) hdg d3 d4 d7 (fun x hx9 => ?_) (by show names.length + 3 < d' + 1; omega) (by rw [ab_cat_rl]; show _ ≤ 40 * (d' + 1); omega) (by show cells + 1 ≤ mc; omega) (by show slots + 6 ≤ ms; omega) hlocks (fun t ce k1 k2 k3 k4 k5 k6 k7 => ?_) hS.2.2 (by omega) (by omega)
                              · rcases g6 w hw with q | ⟨C, D9, q1, q2⟩ | ⟨x9, q1, q2⟩
                                · exact hts _ q
                                · rw [q1]
                                  exact va_Nw.use rfl q2
                                · rw [q1]
                                  exact va_Nw.use rfl q2
                              · have good : ∀ w ∈ TB, vx_ot w = true := fun w hw => by
                                  rcases hOK.1 w hw with q | ⟨ty, q⟩
                                  · unfold vx_ot
                                    rw [Bool.and_eq_true] at q
                                    rw [q.1]
                                    rfl
                                  · rw [q]
                                    rfl
                                rcases List.mem_cons.mp hw with rfl | hw
                                · exact good _ g4
                                · rcases List.mem_cons.mp hw with rfl | hw
                                  · exact good _ g5
                                  · rcases g6 w hw with q | ⟨C, D9, q1, q2⟩ | ⟨x9, q1, q2⟩
                                    · exact good _ q
                                    · rw [q1]
                                      rfl
                                    · rw [q1]
                                      rfl
                              · rw [htab] at hx9
                                obtain ⟨z9, hz9, e9⟩ := List.mem_map.mp hx9
                                have := List.all_eq_true.mp hall z9 hz9
                                rw [← e9]
                                show (decide (z9.1 ≤ pc + 7) && decide (pc + 7 < z9.2.1)) = false
                                cases hb9 : (decide (z9.1 ≤ pc + 7) && decide (pc + 7 < z9.2.1)) with
                                | false => rfl
                                | true =>
                                  rw [hb9] at this
                                  cases this
                              · have k8 : H.size < t.heap.size := (Array.getElem?_eq_some_iff.mp k4).1
                                refine ⟨h.length, rfl, hz, by omega, ?_, Nat.le_trans hS.1 k2, fun q q1 q2 => (k3 q (Nat.lt_of_lt_of_le q1 hS.1)).trans (hS.2.1 q q1 q2)⟩
                                exact ab_Wx_set (hP.kept (fun k x hx => k3 x.1 ((hP k x hx).lt))) 6
                            · cases h1
                          · cases h1
                        · cases h1
                      · cases hs
                    · cases hs
/-- THE TIE of runs that may throw -/
theorem ab_metx {n d y : Nat} {M : ab_MX} (hOK : ab_OK G TB) (hOT : ab_OKt G T TB) (hT : ab_Ty cA (ab_gO G) tys) (hst : l.stackTraces = false) (hM : ab_mx G T y = some M) {As : List Value} {h hF : List ab_E} {r : ab_RX} (hs : ab_rx G T n d M 0 (lv_args 0 As) [] h = some (r, hF)) (hlen : (lg_sl As).length ≤ ab_mL M.1) :
    vx_Met l (ab_my M.1) (ab_cwd T y M :: TB) (ab_R d (hF.length - h.length) (ab_z hF - ab_z h)) (ab_PX B D G T TB cA tys As h) (ab_QX B D G cA r hF) (ab_XC B D G cA r hF) (hF.length - h.length) (ab_z hF - ab_z h) (fun q : Nat => B.1 ≤ q) :=
  ab_metx_of hOK hOT (ab_tiex hOK hOT hT hst n) d y M hM As h hF r hs hlen
end RXT

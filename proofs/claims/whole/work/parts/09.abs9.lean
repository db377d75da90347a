/-- what an abstract run from the middle of a method says -/
def ab_A (l : Launch) (B : Nat × (Nat → Nat)) (D : va_G) (G : ab_G) (TB : List Cond) (tys : List (ClassId × FieldType)) (cA : Nat → ClassId) (n : Nat) : Prop :=
  ∀ (d : Nat) (M : ab_MI) (y : Nat), ab_gM G y = some M → ∀ (pc : Nat) (lv : ab_L) (st : List Value) (h hF : List ab_E) (r : Option Value), ab_run G n d M pc lv st h = some (r, hF) →
    ∀ (mc ms n0 z0 : Nat), n0 + mc = hF.length → z0 + ms = ab_z hF → ∀ (p : Program) (e : Env) (s : State) (m : MethodId) (args : Array Value) (below : List Frame) (meth : Method) (c : Code),
      p.tables.exec = Jvm.exec → c.code = ab_mc M → c.maxLocals = ab_mL M → meth.sig.returnType = ab_mr M → meth.locks = false → s.vm.findClass (ab_my M).cls = some m.cls → (ab_mi M = true → meth.name = "<init>") → (∀ w ∈ TB, w.before args s = true) → va_K D (ab_gK G) tys s → ab_Xf B G TB cA s s.heap → s.heap.size = B.1 + n0 →
      ∀ (H : Heap) (locs : List Loc) (cells slots : Nat) (ls : Array Slot), va_P D (ab_gK G) (ab_W B cA h) H → va_S (fun q : Nat => B.1 ≤ q) s.heap H locs → H.size = B.1 + h.length → n0 + cells = h.length → z0 + slots = ab_z h → lv_has ls (ab_mL M) (ab_rlL B lv) →
        W p l e (ab_R d mc ms) s m args below meth c H locs cells slots (MQ below (ab_Qc B D G cA r hF) args s mc ms (fun q : Nat => B.1 ≤ q)) (F0 m pc ls (st.map (ab_rl B)))
section AB10
variable {l : Launch} {B : Nat × (Nat → Nat)} {D : va_G} {G : ab_G} {TB : List Cond} {tys : List (ClassId × FieldType)} {cA : Nat → ClassId}
/-- a method's contract out of its run -/
theorem ab_met_of {n d y : Nat} {M : ab_MI} (hOK : ab_OK G TB) (hA : ab_A l B D G TB tys cA n) (hM : ab_gM G y = some M) {As : List Value} {h hF : List ab_E} {r : Option Value} (hs : ab_run G n d M 0 (lv_args 0 As) [] h = some (r, hF)) (hlen : (lg_sl As).length ≤ ab_mL M) :
    Met l (ab_my M) (Cond.code (ab_my M) (ab_mc M) (ab_mL M) (ab_mr M) :: TB) (ab_R d (hF.length - h.length) (ab_z hF - ab_z h)) (ab_Pc B D G TB cA tys As h) (ab_Qc B D G cA r hF) (hF.length - h.length) (ab_z hF - ab_z h) (fun q : Nat => B.1 ≤ q) := by
  obtain ⟨⟨k1, k2, k3, k4, -⟩, -⟩ := hOK.2.2 y M hM
  obtain ⟨z1, z2⟩ := ab_run_z _ _ _ _ _ _ _ _ _ hs
  refine Met.ofW (cc := ab_mc M) (maxL := ab_mL M) (ret := ab_mr M) k2 rfl ?_
  intro p e s m args below meth c s₁ BL hml hv
  obtain ⟨rfl, hsz, hP, hK, hX⟩ := hv
  have hts0 := atoms_spec (ws := Cond.code (ab_my M) (ab_mc M) (ab_mL M) (ab_mr M) :: TB) BL.pre
  have hts : ∀ w ∈ TB, w.before ((As.map (ab_rl B)).toArray) s = true := fun w hw => hts0 w (List.mem_cons_of_mem _ hw)
  have hown : s.vm.findClass (ab_my M).cls = some m.cls := findClass_of_methodNamed BL.named
  have hin : ab_mi M = true → meth.name = "<init>" := fun q => ((name_of_methodNamed BL.named BL.method).1).trans (k4 q)
  have hl := lv_entry (As.map (ab_rl B)) (n := ab_mL M) (by rw [ab_sl_rl]; exact hlen)
  rw [ab_args_rl] at hl
  rw [lg_entry_eq]
  exact hA d M y hM 0 (lv_args 0 As) [] h hF r hs (hF.length - h.length) (ab_z hF - ab_z h) h.length (ab_z h) (by omega) (by omega) p e s m _ below meth c BL.exec BL.bytes hml BL.returns BL.notSynchronized hown hin hts hK hX hsz s.heap [] 0 0 _ hP va_S.rf hsz rfl rfl hl
set_option maxHeartbeats 4000000 in
theorem ab_tie (hOK : ab_OK G TB) (hT : ab_Ty cA (ab_gO G) tys) : ∀ n : Nat, ab_A l B D G TB tys cA n
  | 0 => by
    intro d M y hM pc lv st h hF r hs
    cases hs
  | n + 1 => by
    have ih := ab_tie hOK hT n
    intro d M y hM pc lv st h hF r hs mc ms n0 z0 hmc hms p e s m args below meth c hx hb hml hr hlocks hown hin hts hK hX hs0 H locs cells slots ls hP hS hz hc hsl hl
    obtain ⟨hm, hcl⟩ := hOK.2.2 y M hM
    unfold ab_run at hs
    split at hs
    · cases hs
    · rename_i i k hdg
      split at hs
      · rename_i pc' lv' st' h' h1
        obtain ⟨a1, a2⟩ := ab_run_z _ _ _ _ _ _ _ _ _ hs
        refine ab_step_ok (R := ab_R d mc ms) hx hb hown hin hts hm hOK.2.1 hT hK (Or.inl ⟨y, M, hM, rfl, rfl⟩) hX hs0 hdg h1 (by show h'.length ≤ n0 + mc; omega) (by show ab_z h' ≤ z0 + ms; omega) hP hS hz hc hsl hl ?_
        intro H1 locs1 cells1 slots1 ls1 b1 b2 b3 b4 b5 b6
        exact ih d M y hM pc' lv' st' h' hF r hs mc ms n0 z0 hmc hms p e s m args below meth c hx hb hml hr hlocks hown hin hts hK hX hs0 H1 locs1 cells1 slots1 ls1 b1 b2 b3 b4 b5 b6
      · split at hs
        · rename_i r' h1
          cases hs
          have e1 : cells = mc := by omega
          have e2 : slots = ms := by omega
          subst e1
          subst e2
          exact ab_ret_ok hx hb hr hlocks hdg h1 hP hS hz
        · split at hs
          · cases hs
          · rename_i d'
            split at hs
            · rename_i r2 h1
              unfold ab_obi at h1
              split at h1
              · rename_i ix a r3
                split at h1
                · rename_i hgt
                  split at h1
                  · rename_i hcat
                    cases h1
                    obtain ⟨w1, w2, w3⟩ := (hcl _ _ _ _ _ hgt).1 rfl
                    refine W.objInit hx hb hown (hts _ w1) (hts _ w2) (hts _ w3) rfl (by rw [hml]; exact hl.1) rfl hdg (by show 1 ≤ d' + 1; omega) ?_ ?_
                    · exact Nat.le_trans (Nat.add_le_add_right (lv_room (st := r2.map (ab_rl B)) (by rw [ab_cat_rl]; exact hcat)) 12) (by show 8 + 12 ≤ 40 * (d' + 1); omega)
                    · exact ih (d' + 1) M y hM (pc + 3) lv r2 h hF r hs mc ms n0 z0 hmc hms p e s m args below meth c hx hb hml hr hlocks hown hin hts hK hX hs0 H locs cells slots ls hP hS hz hc hsl hl
                  · cases h1
                · cases h1
              · cases h1
            · split at hs
              · rename_i r2 h' h1
                obtain ⟨q1, q2⟩ := ab_cpy_z h1
                obtain ⟨a3, a4⟩ := ab_run_z _ _ _ _ _ _ _ _ _ hs
                unfold ab_cpy at h1
                split at h1
                · split at h1
                  · rename_i hgt
                    split at h1
                    · rename_i h9
                      cases h1
                      refine ab_cp_ok (R := ab_R (d' + 1) mc ms) hx hb (hml.trans hl.1.symm) hts hown hT hK hP hS hdg ((hcl _ _ _ _ _ hgt).2.1 rfl) h9 (by show 1 ≤ d' + 1; omega) (by show 40 ≤ 40 * (d' + 1); omega) (fun H1 locs1 b1 b2 b3 => ab_size (fun b4 => ?_))
                      exact ih (d' + 1) M y hM (pc + 3) lv r2 h' hF r hs mc ms n0 z0 hmc hms p e s m args below meth c hx hb hml hr hlocks hown hin hts hK hX hs0 H1 locs1 cells slots ls b1 b2 (by omega) (by omega) (by omega) hl
                    · refine ab_cq_ok (R := ab_R (d' + 1) mc ms) hx hb (hml.trans hl.1.symm) hts hown hX hT hK hP hS hdg ((hcl _ _ _ _ _ hgt).2.1 rfl) h1 (by show 1 ≤ d' + 1; omega) (by show 40 ≤ 40 * (d' + 1); omega) (fun H1 locs1 b1 b2 b3 => ab_size (fun b4 => ?_))
                      exact ih (d' + 1) M y hM (pc + 3) lv r2 h' hF r hs mc ms n0 z0 hmc hms p e s m args below meth c hx hb hml hr hlocks hown hin hts hK hX hs0 H1 locs1 cells slots ls b1 b2 (by omega) (by omega) (by omega) hl
                  · rename_i hgt
                    obtain ⟨⟨x9, y9, r9⟩, g1, g2⟩ := Option.bind_eq_some_iff.mp h1
                    cases g2
                    obtain ⟨rfl, hcat⟩ := ab_mI_eq g1
                    obtain ⟨w1, w2, w3, w4⟩ := (hcl _ _ _ _ _ hgt).2.2.1 rfl
                    exact va_mmax (R := ab_R (d' + 1) mc ms) hx hb (hml.trans hl.1.symm) hown (hts _ w1) (hts _ w2) (hts _ w3) (hts _ w4) (by show 1 ≤ d' + 1; omega) (by rw [ab_cat_rl]; show _ ≤ 40 * (d' + 1); omega) (by show cells ≤ mc; omega) (by show slots ≤ ms; omega) hdg (ih (d' + 1) M y hM (pc + 3) lv _ _ hF r hs mc ms n0 z0 hmc hms p e s m args below meth c hx hb hml hr hlocks hown hin hts hK hX hs0 H locs cells slots ls hP hS hz hc hsl hl)
                  · rename_i hgt
                    obtain ⟨⟨x9, y9, r9⟩, g1, g2⟩ := Option.bind_eq_some_iff.mp h1
                    cases g2
                    obtain ⟨rfl, hcat⟩ := ab_mI_eq g1
                    obtain ⟨w1, w2, w3, w4⟩ := (hcl _ _ _ _ _ hgt).2.2.2.1 rfl
                    exact va_mmin (R := ab_R (d' + 1) mc ms) hx hb (hml.trans hl.1.symm) hown (hts _ w1) (hts _ w2) (hts _ w3) (hts _ w4) (by show 1 ≤ d' + 1; omega) (by rw [ab_cat_rl]; show _ ≤ 40 * (d' + 1); omega) (by show cells ≤ mc; omega) (by show slots ≤ ms; omega) hdg (ih (d' + 1) M y hM (pc + 3) lv _ _ hF r hs mc ms n0 z0 hmc hms p e s m args below meth c hx hb hml hr hlocks hown hin hts hK hX hs0 H locs cells slots ls hP hS hz hc hsl hl)
                  · rename_i hgt
                    obtain ⟨⟨x9, y9, r9⟩, g1, g2⟩ := Option.bind_eq_some_iff.mp h1
                    cases g2
                    obtain ⟨rfl, hcat⟩ := ab_mJ_eq g1
                    obtain ⟨w1, w2, w3, w4⟩ := (hcl _ _ _ _ _ hgt).2.2.2.2.1 rfl
                    exact va_mmin_long (R := ab_R (d' + 1) mc ms) hx hb (hml.trans hl.1.symm) hown (hts _ w1) (hts _ w2) (hts _ w3) (hts _ w4) (by show 1 ≤ d' + 1; omega) (by rw [ab_cat_rl]; show _ ≤ 40 * (d' + 1); omega) (by show cells ≤ mc; omega) (by show slots ≤ ms; omega) hdg (ih (d' + 1) M y hM (pc + 3) lv _ _ hF r hs mc ms n0 z0 hmc hms p e s m args below meth c hx hb hml hr hlocks hown hin hts hK hX hs0 H locs cells slots ls hP hS hz hc hsl hl)
                  · cases h1
                · split at h1
                  · rename_i hgt
                    split at h1
                    · rename_i ha9
                      split at h1
                      · rename_i hu9
                        obtain ⟨ho9, hu, hcat⟩ := hu9
                        subst hu
                        rw [ho9] at hgt
                        cases h1
                        exact ab_gc_ok (R := ab_R (d' + 1) mc ms) hx hb (hml.trans hl.1.symm) hts hown (Or.inl ⟨y, M, hM, ho9, rfl⟩) hX hT hK hP hgt ha9 hcat hdg (by show 1 ≤ d' + 1; omega) (by show 40 ≤ 40 * (d' + 1); omega) (ih (d' + 1) M y hM (pc + 3) lv _ h hF r hs mc ms n0 z0 hmc hms p e s m args below meth c hx hb hml hr hlocks hown hin hts hK hX hs0 H locs cells slots ls hP hS hz hc hsl hl)
                      · cases h1
                    · cases h1
                  · cases h1
                · cases h1
              · split at hs
                · cases hs
                · rename_i y' As rest h1
                  split at hs
                  · cases hs
                  · rename_i M' hM'
                    split at hs
                    · rename_i hlen
                      split at hs
                      · cases hs
                      · rename_i v h' h2
                        obtain ⟨a1, a2⟩ := ab_run_z _ _ _ _ _ _ _ _ _ h2
                        obtain ⟨a3, a4⟩ := ab_run_z _ _ _ _ _ _ _ _ _ hs
                        refine ab_call_ok (R := ab_R (d' + 1) mc ms) (d := d') (mc := h'.length - h.length) (ms := ab_z h' - ab_z h) hx hb hml hown hts hOK.1 hcl hK (Or.inl ⟨y, M, hM, rfl, rfl⟩) hX hdg h1 hM' (hOK.2.2 y' M' hM').1 (Nat.le_refl _) (by show 40 * d' + 40 ≤ 40 * (d' + 1); omega) (by show cells + (h'.length - h.length) ≤ mc; omega) (by show slots + (ab_z h' - ab_z h) ≤ ms; omega) (ab_met_of hOK ih hM' h2 hlen) hP hS hz hl.1 ?_
                        intro H1 locs1 b1 b2 b3
                        exact ih (d' + 1) M y hM (pc + 3) lv (v.toList ++ rest) h' hF r hs mc ms n0 z0 hmc hms p e s m args below meth c hx hb hml hr hlocks hown hin hts hK hX hs0 H1 locs1 _ _ ls b1 b2 b3 (by omega) (by omega) hl
                    · cases hs
/-- THE TIE: a method's contract out of its run -/
theorem ab_met {n d y : Nat} {M : ab_MI} (hOK : ab_OK G TB) (hT : ab_Ty cA (ab_gO G) tys) (hM : ab_gM G y = some M) {As : List Value} {h hF : List ab_E} {r : Option Value} (hs : ab_run G n d M 0 (lv_args 0 As) [] h = some (r, hF)) (hlen : (lg_sl As).length ≤ ab_mL M) :
    Met l (ab_my M) (Cond.code (ab_my M) (ab_mc M) (ab_mL M) (ab_mr M) :: TB) (ab_R d (hF.length - h.length) (ab_z hF - ab_z h)) (ab_Pc B D G TB cA tys As h) (ab_Qc B D G cA r hF) (hF.length - h.length) (ab_z hF - ab_z h) (fun q : Nat => B.1 ≤ q) :=
  ab_met_of hOK (ab_tie hOK hT n) hM hs hlen
end AB10

section AB9
variable {p : Program} {l : Launch} {e : Env} {R : Room} {s : State} {m : MethodId} {args : Array Value} {below : List Frame} {meth : Method} {c : Code} {H : Heap} {locs : List Loc} {cells slots : Nat} {Q : State → Prop}
variable {pc : Nat} {ls : Array Slot} {B : Nat × (Nat → Nat)} {D : va_G} {G : ab_G} {TB : List Cond} {tys : List (ClassId × FieldType)} {cA : Nat → ClassId} {M : ab_MI}
set_option maxHeartbeats 4000000 in
theorem ab_step_ok (hx : p.tables.exec = Jvm.exec) (hb : c.code = ab_mc M) (hown : s.vm.findClass (ab_my M).cls = some m.cls) (hin : ab_mi M = true → meth.name = "<init>") (hts : ∀ w ∈ TB, w.before args s = true) (hOK : ab_OKm G TB M) (hAr : ∀ a q, ab_na a = some q → Cond.arrayClass q.2.1 ∈ TB) (hT : ab_Ty cA (ab_gO G) tys) (hK : va_K D (ab_gK G) tys s) (ho : ab_own G (ab_mo M) (ab_my M).cls) (hX : ab_Xf B G TB cA s s.heap)
    {n0 z0 : Nat} (hs0 : s.heap.size = B.1 + n0) {i : Instr} {k pc' : Nat} {lv lv' : ab_L} {st st' : List Value} {h h' : List ab_E} (hdg : decode (ab_mc M) pc = .ok (i, k)) (hs : ab_step G M i k pc lv st h = some (pc', lv', st', h')) (hRc : h'.length ≤ n0 + R.cells) (hRs : ab_z h' ≤ z0 + R.slots)
    (hP : va_P D (ab_gK G) (ab_W B cA h) H) (hS : va_S (fun q : Nat => B.1 ≤ q) s.heap H locs) (hz : H.size = B.1 + h.length) (hc : n0 + cells = h.length) (hsl : z0 + slots = ab_z h) (hl : lv_has ls (ab_mL M) (ab_rlL B lv))
    (K : ∀ (H1 : Heap) (locs1 : List Loc) (cells1 slots1 : Nat) (ls1 : Array Slot), va_P D (ab_gK G) (ab_W B cA h') H1 → va_S (fun q : Nat => B.1 ≤ q) s.heap H1 locs1 → H1.size = B.1 + h'.length → n0 + cells1 = h'.length → z0 + slots1 = ab_z h' → lv_has ls1 (ab_mL M) (ab_rlL B lv') →
      W p l e R s m args below meth c H1 locs1 cells1 slots1 Q (F0 m pc' ls1 (st'.map (ab_rl B)))) : W p l e R s m args below meth c H locs cells slots Q (F0 m pc ls (st.map (ab_rl B))) := by
  obtain ⟨-, -, -, -, hF, hC, hI, hL⟩ := hOK
  unfold ab_step at hs
  split at hs
  · rename_i h1
    cases hs
    exact ab_s1_ok hx hb hdg h1 (K _ _ _ _ _ hP hS hz hc hsl hl)
  · split at hs
    · rename_i h1
      cases hs
      exact ab_s2_ok hx hb hdg h1 hl (fun ls' hl' => K _ _ _ _ _ hP hS hz hc hsl hl')
    · split at hs
      · rename_i h1
        cases hs
        exact ab_s3_ok hx hb hdg h1 (K _ _ _ _ _ hP hS hz hc hsl hl)
      · split at hs
        · rename_i h1
          cases hs
          exact ab_s4_ok hx hb hts hown hF hT hK hP hdg h1 (K _ _ _ _ _ hP hS hz hc hsl hl)
        · split at hs
          · rename_i h1
            cases hs
            obtain ⟨q1, q2⟩ := ab_s5_z h1
            refine ab_s5_ok hx hb hts hown hin hF hT hK hP hS hdg h1 (fun H1 locs1 a1 a2 a3 => ab_size (fun a4 => ?_))
            exact K H1 locs1 cells slots ls a1 a2 (by omega) (by omega) (by omega) hl
          · split at hs
            · rename_i h1
              cases hs
              rw [List.length_append, List.length_singleton] at hRc
              rw [ab_z_push] at hRs
              refine ab_s6_ok hx hb hts hown hC hAr hT hK hP hS (by omega) hz hdg h1 (by omega) (by omega) (fun H1 a1 a2 a3 => ?_)
              exact K H1 locs (cells + 1) _ ls a1 a2 a3 (by rw [List.length_append, List.length_singleton]; omega) (by rw [ab_z_push]; omega) hl
            · split at hs
              · rename_i h1
                cases hs
                exact ab_s7_ok hx hb hts hown hI hL hdg h1 (K _ _ _ _ _ hP hS hz hc hsl hl)
              · split at hs
                · rename_i h1
                  cases hs
                  exact ab_s8_ok hx hb hts hown ho hX hS hdg h1 (K _ _ _ _ _ hP hS hz hc hsl hl)
                · split at hs
                  · rename_i h1
                    cases hs
                    obtain ⟨q1, q2⟩ := ab_s9_z h1
                    refine ab_s9_ok hx hb hts hown ho hX hT hK hP hS hdg h1 (fun H1 locs1 a1 a2 a3 => ab_size (fun a4 => ?_))
                    exact K H1 locs1 cells slots ls a1 a2 (by omega) (by omega) (by omega) hl
                  · split at hs
                    · rename_i h1
                      cases hs
                      rw [List.length_append] at hRc
                      rw [ab_z_app] at hRs
                      refine ab_s10_ok hx hb hts hown ho hX hT hK hP hS (by omega) hz hdg h1 (by omega) (by omega) (fun H1 a1 a2 a3 => ?_)
                      exact K H1 locs _ _ ls a1 a2 a3 (by rw [List.length_append]; omega) (by rw [ab_z_app]; omega) hl
                    · cases hs
set_option maxHeartbeats 4000000 in
theorem ab_ret_ok (hx : p.tables.exec = Jvm.exec) (hb : c.code = ab_mc M) (hr : meth.sig.returnType = ab_mr M) (hlocks : meth.locks = false) {i : Instr} {k : Nat} {st : List Value} {r : Option Value} {h : List ab_E} (hdg : decode (ab_mc M) pc = .ok (i, k)) (hs : ab_ret (ab_mr M) i k st = some r)
    (hP : va_P D (ab_gK G) (ab_W B cA h) H) (hS : va_S (fun q : Nat => B.1 ≤ q) s.heap H locs) (hz : H.size = B.1 + h.length) : W p l e R s m args below meth c H locs cells slots (MQ below (ab_Qc B D G cA r h) args s cells slots (fun q : Nat => B.1 ≤ q)) (F0 m pc ls (st.map (ab_rl B))) := by
  have hq : ∀ (o : Outcome), o = .returned (r.map (ab_rl B)) → ∀ t : State, t.heap = H → s.WarmedH t.vm → ab_Qc B D G cA r h args s o t := fun o ho t ht _ => ⟨ho, by rw [ht]; exact hz, by rw [ht]; exact hP, hS.F ht⟩
  generalize hrt : ab_mr M = rt at hs hr
  unfold ab_ret at hs
  split at hs
  · cases hs
    exact W.iret hx hb hr (hq _ rfl) hS.2.2 hdg hlocks
  · split at hs
    · rename_i hn
      cases hs
      exact W.zret hx hb hr hn (hq _ rfl) hS.2.2 hdg hlocks
    · cases hs
  · split at hs
    · rename_i hn
      cases hs
      exact W.zret hx hb hr hn (hq _ rfl) hS.2.2 hdg hlocks
    · cases hs
  · split at hs
    · rename_i hn
      cases hs
      exact W.zret hx hb hr hn (hq _ rfl) hS.2.2 hdg hlocks
    · cases hs
  · cases hs
    exact W.lret hx hb hr (hq _ rfl) hS.2.2 hdg hlocks
  · cases hs
    exact W.aret hx hb hr (Or.inl ⟨_, rfl⟩) (Or.inr ⟨_, rfl⟩) (hq _ rfl) hS.2.2 hdg hlocks
  · cases hs
    exact W.aret hx hb hr (Or.inl ⟨_, rfl⟩) (Or.inl rfl) (hq _ rfl) hS.2.2 hdg hlocks
  · cases hs
    exact W.aret hx hb hr (Or.inl ⟨_, rfl⟩) (Or.inr ⟨_, rfl⟩) (hq _ rfl) hS.2.2 hdg hlocks
  · cases hs
    exact W.aret hx hb hr (Or.inr ⟨_, rfl⟩) (Or.inr ⟨_, rfl⟩) (hq _ rfl) hS.2.2 hdg hlocks
  · cases hs
    exact W.aret hx hb hr (Or.inr ⟨_, rfl⟩) (Or.inl rfl) (hq _ rfl) hS.2.2 hdg hlocks
  · cases hs
    exact W.aret hx hb hr (Or.inr ⟨_, rfl⟩) (Or.inr ⟨_, rfl⟩) (hq _ rfl) hS.2.2 hdg hlocks
  · cases hs
    exact W.vret hx hb hr (hq _ rfl) hS.2.2 hdg hlocks
  · cases hs
theorem ab_blind (As : List Value) (h : List ab_E) : FrameBlind (ab_Pc B D G TB cA tys As h) := fun a U g mk q => ⟨q.1, q.2.1, q.2.2.1, va_K.moved (u := U) (U := U.calling g mk a) (Vm.Alike.refl U.vm) q.2.2.2.1, q.2.2.2.2.to (U := U.calling g mk a) (State.WarmedH.refl U) (fun _ _ _ => rfl)⟩
theorem ab_goodIn (hG : ∀ w ∈ TB, ab_good w) {w0 : Cond} (h0 : w0 ∈ TB) : GoodIn TB (w0 :: TB) := by
  intro w hw
  rcases List.mem_cons.mp hw with rfl | hw
  · exact ⟨h0, hG _ h0⟩
  · exact ⟨hw, hG _ hw⟩
theorem ab_stk (na : Nat) (st : List Value) : st.map (ab_rl B) = ((st.take na).reverse.map (ab_rl B)).reverse ++ (st.drop na).map (ab_rl B) := by
  rw [List.map_reverse, List.reverse_reverse, ← List.map_append, List.take_append_drop]
set_option maxHeartbeats 4000000 in
/-- a call, the callee's contract at hand -/
theorem ab_call_ok (hx : p.tables.exec = Jvm.exec) (hb : c.code = ab_mc M) (hml : c.maxLocals = ab_mL M) (hown : s.vm.findClass (ab_my M).cls = some m.cls) (hts : ∀ w ∈ TB, w.before args s = true) (hG : ∀ w ∈ TB, ab_good w) (hOK : ab_OKc G TB M) (hK : va_K D (ab_gK G) tys s) (ho : ab_own G (ab_mo M) (ab_my M).cls) (hX : ab_Xf B G TB cA s s.heap)
    {i : Instr} {k y d mc ms : Nat} {st As rest : List Value} {h h' : List ab_E} {r : Option Value} {M' : ab_MI} (hdg : decode (ab_mc M) pc = .ok (i, k)) (hs : ab_call G (ab_mo M) h i k st = some (y, As, rest)) (hM' : ab_gM G y = some M') (hOK' : ab_OKm G TB M')
    (hR1 : d + 1 ≤ R.frames) (hR2 : 40 * d + 40 ≤ R.locals) (hR3 : cells + mc ≤ R.cells) (hR4 : slots + ms ≤ R.slots) (hMet : Met l (ab_my M') (Cond.code (ab_my M') (ab_mc M') (ab_mL M') (ab_mr M') :: TB) (ab_R d mc ms) (ab_Pc B D G TB cA tys As h) (ab_Qc B D G cA r h') mc ms (fun q : Nat => B.1 ≤ q))
    (hP : va_P D (ab_gK G) (ab_W B cA h) H) (hS : va_S (fun q : Nat => B.1 ≤ q) s.heap H locs) (hz : H.size = B.1 + h.length) (hl : ls.size = ab_mL M)
    (K : ∀ (H1 : Heap) (locs1 : List Loc), va_P D (ab_gK G) (ab_W B cA h') H1 → va_S (fun q : Nat => B.1 ≤ q) s.heap H1 locs1 → H1.size = B.1 + h'.length →
      W p l e R s m args below meth c H1 locs1 (cells + mc) (slots + ms) Q (F0 m (pc + 3) ls ((r.toList ++ rest).map (ab_rl B)))) : W p l e R s m args below meth c H locs cells slots Q (F0 m pc ls (st.map (ab_rl B))) := by
  have hrv : (r.map (ab_rl B)).toList ++ rest.map (ab_rl B) = (r.toList ++ rest).map (ab_rl B) := by
    rw [List.map_append]
    cases r <;> rfl
  obtain ⟨m1, -, m3, -⟩ := hOK'
  have hGI := ab_goodIn hG m1
  have hPre : ∀ U : State, U.heap = H → s.WarmedH U.vm → ab_Pc B D G TB cA tys As h (As.map (ab_rl B)).toArray U := fun U hU hW => ⟨rfl, by rw [hU]; exact hz, by rw [hU]; exact hP, va_K.moved hW.alike hK, by rw [hU]; exact hX.to hW hS.2.1⟩
  have hroom : (ab_R d mc ms).frames + 1 ≤ R.frames ∧ 8 + (ab_mL M' + 11) + (ab_R d mc ms).locals ≤ R.locals := ⟨hR1, by show 8 + (ab_mL M' + 11) + 40 * d ≤ R.locals; omega⟩
  unfold ab_call at hs
  split at hs
  · split at hs
    · rename_i y2 na ci hgt
      split at hs
      · rename_i hc
        cases hs
        obtain ⟨-, -, -, -, -, w1⟩ := hOK _ _ _ _ _ hgt
        obtain ⟨w2, w3, w4, -, w5, -⟩ := w1 (by decide) _ hM'
        refine ab_behind (va_runS (As := List.map (ab_rl B) (List.reverse (List.take na _))) (rest := List.map (ab_rl B) (List.drop na _)) (Ts := TB) ⟨hx, hb, hml, hown, hts⟩ hMet ⟨callB_of na hts hGI rfl rfl rfl (hts _ w3) (hts _ (w2 (by decide))) w4 hroom, hts _ (w5 rfl)⟩ ⟨ab_blind _ _, hPre⟩ rfl ?_ hl (ab_stk na _) (lv_room (by rw [ab_cat_rl]; exact hc.2)) hdg ⟨hR3, hR4⟩) hS hrv K
        rw [List.length_map, List.length_reverse, List.length_take]
        exact Nat.min_eq_left hc.1
      · cases hs
    · cases hs
  · split at hs
    · rename_i y2 na ci hgt
      split at hs
      · rename_i a r2 hst
        split at hs
        · rename_i cj fs ha
          split at hs
          · rename_i hc
            cases hs
            obtain ⟨c1, c2, c3⟩ := hc
            subst c1
            obtain ⟨-, -, -, -, -, w1⟩ := hOK _ _ _ _ _ hgt
            obtain ⟨w2, w3, w4, w5, -⟩ := w1 (by decide) _ hM'
            obtain ⟨w6, w7, q, w8, w9⟩ := w5 rfl
            obtain ⟨j0, hj0⟩ := ab_W_at (B := B) (cA := cA) ha rfl
            refine ab_behind (va_runV (b := B.1 + a) (As := List.map (ab_rl B) (List.reverse (List.take na _))) (rest := rest.map (ab_rl B)) (Ts := TB) ⟨hx, hb, hml, hown, hts⟩ hMet ⟨callB_of na hts hGI rfl rfl rfl (hts _ w3) (hts _ (w2 (by decide))) w4 hroom, hts _ w6, hts _ w7⟩ ⟨ab_blind _ _, by rw [← w9]; exact va_recv hK hP w8 hj0, hPre⟩ rfl ?_ hl ?_ (lv_room (by rw [ab_cat_rl]; exact c3)) hdg ⟨hR3, hR4⟩) hS hrv K
            · rw [List.length_map, List.length_reverse, List.length_take]
              exact Nat.min_eq_left c2
            · refine (ab_stk (B := B) na _).trans ?_
              rw [hst]
              rfl
          · cases hs
        · cases hs
      · cases hs
    · rename_i y2 na ci hgt
      split at hs
      · rename_i j r2 hst
        split at hs
        · rename_i hc
          cases hs
          obtain ⟨c1, c2, c3⟩ := hc
          obtain ⟨-, -, -, -, -, w1⟩ := hOK _ _ _ _ _ hgt
          obtain ⟨w2, w3, w4, -, -, w5, -⟩ := w1 (by decide) _ hM'
          obtain ⟨w6, w7, w9⟩ := w5 rfl
          obtain ⟨cell, o1, o2, o3, -⟩ := (hX.2.2.2.2.2.1 _ c1).kept hS.2.1
          refine ab_behind (va_runV (b := B.2 j) (As := List.map (ab_rl B) (List.reverse (List.take na _))) (rest := rest.map (ab_rl B)) (Ts := TB) ⟨hx, hb, hml, hown, hts⟩ hMet ⟨callB_of na hts hGI rfl rfl rfl (hts _ w3) (hts _ (w2 (by decide))) w4 hroom, hts _ w6, hts _ w7⟩ ⟨ab_blind _ _, ⟨cell, o1, o2, by rw [w9]; exact o3⟩, hPre⟩ rfl ?_ hl ?_ (lv_room (by rw [ab_cat_rl]; exact c3)) hdg ⟨hR3, hR4⟩) hS hrv K
          · rw [List.length_map, List.length_reverse, List.length_take]
            exact Nat.min_eq_left c2
          · refine (ab_stk (B := B) na _).trans ?_
            rw [hst]
            rfl
        · cases hs
      · cases hs
    · cases hs
  · split at hs
    · rename_i y2 na ci hgt
      split at hs
      · rename_i a r2 hst
        split at hs
        · rename_i hc
          cases hs
          obtain ⟨-, -, -, -, -, w1⟩ := hOK _ _ _ _ _ hgt
          obtain ⟨w2, w3, w4, -, -, -, w5⟩ := w1 (by decide) _ hM'
          obtain ⟨w6, w7, w8⟩ := w5 (Or.inl rfl)
          rw [w8] at hMet hGI
          refine ab_behind (va_runI (b := B.1 + a) (As := List.map (ab_rl B) (List.reverse (List.take na _))) (rest := rest.map (ab_rl B)) (Ts := TB) ⟨hx, hb, hml, hown, hts⟩ hMet ⟨callB_of na hts hGI rfl rfl rfl (hts _ w3) (hts _ (w2 (by decide))) w4 hroom, w6, hts _ w7⟩ ⟨ab_blind _ _, hPre⟩ rfl ?_ hl ?_ (lv_room (by rw [ab_cat_rl]; exact hc.2)) hdg ⟨hR3, hR4⟩) hS hrv K
          · rw [List.length_map, List.length_reverse, List.length_take]
            exact Nat.min_eq_left hc.1
          · refine (ab_stk (B := B) na _).trans ?_
            rw [hst]
            rfl
        · cases hs
      · cases hs
    · rename_i y2 na ci hgt
      split at hs
      · rename_i a r2 hst
        split at hs
        · rename_i hc
          cases hs
          obtain ⟨-, -, -, -, -, w1⟩ := hOK _ _ _ _ _ hgt
          obtain ⟨w2, w3, w4, -, -, -, w5⟩ := w1 (by decide) _ hM'
          obtain ⟨w6, w7, w8⟩ := w5 (Or.inr rfl)
          obtain ⟨host, w9⟩ := hX.2.2.2.2.1 _ _ ho _ _ _ _ _ hgt hM'
          rw [w8] at hMet hGI
          refine ab_behind (va_runIN (b := B.1 + a) (As := List.map (ab_rl B) (List.reverse (List.take na _))) (rest := rest.map (ab_rl B)) (Ts := TB) ⟨hx, hb, hml, hown, hts⟩ hMet ⟨va_cnB na hts hGI rfl rfl rfl w9 (hts _ w3) w4 hroom, w6, hts _ w7⟩ ⟨ab_blind _ _, hPre⟩ rfl ?_ hl ?_ (lv_room (by rw [ab_cat_rl]; exact hc.2)) hdg ⟨hR3, hR4⟩) hS hrv K
          · rw [List.length_map, List.length_reverse, List.length_take]
            exact Nat.min_eq_left hc.1
          · refine (ab_stk (B := B) na _).trans ?_
            rw [hst]
            rfl
        · cases hs
      · cases hs
    · cases hs
  · cases hs
end AB9

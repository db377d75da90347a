section ABM
variable {p : Program} {l : Launch} {e : Env} {R : Room} {s : State} {m : MethodId} {args : Array Value} {below : List Frame} {meth : Method} {c : Code} {H : Heap} {locs : List Loc} {cells slots : Nat} {Q : State → Prop}
variable {cc : ByteArray} {pc : Nat} {ls : Array Slot} {B : Nat × (Nat → Nat)} {cA : Nat → ClassId}
theorem ab_pushL_stand : ∀ (L : List Cell) {T : State} {cells slots : Nat}, Stand p l e R s m args below meth c T locs cells slots → Stand p l e R s m args below meth c (ab_pushL T L) locs (cells + L.length) (slots + (L.map (fun c => c.slots.size)).sum)
  | [], _, _, _, X => X
  | x :: L, T, cells, slots, X => by
    have h := ab_pushL_stand L (X.pushed x)
    rw [List.length_cons, List.map_cons, List.sum_cons]
    rw [show cells + (L.length + 1) = cells + 1 + L.length by omega, show slots + (x.slots.size + (L.map (fun c => c.slots.size)).sum) = slots + x.slots.size + (L.map (fun c => c.slots.size)).sum by omega]
    exact h
theorem ab_ints_wp {E : CtlPost} {Q : List Int32 → Pre} : ∀ (ns : List Int32) {d : Bool} {acts : List Action} {s : State}, Q ns d acts s → wp ((ns.map Value.int).mapM (fun v : Value => match v with
    | .int n => (Pure.pure n : Sem Int32)
    | _ => illTyped "multianewarray: an int count was expected")) Q E e d acts s
  | [], _, _, _, h => by
    rw [List.map_nil, List.mapM_nil, wp_pure']
    exact h
  | n :: ns, d, acts, s, h => by
    rw [List.map_cons, List.mapM_cons, wp_bind']
    rw [wp_pure', wp_bind']
    refine ab_ints_wp (Q := fun l => wp (Pure.pure (n :: l)) Q E e) ns ?_
    rw [wp_pure']
    exact h
set_option maxHeartbeats 4000000 in
theorem ab_multi (hexec : p.tables.exec = Jvm.exec) (hb : c.code = cc) {own nm : String} {index d : Nat} (hown : s.vm.findClass own = some m.cls) (hclink : (Cond.classLink own index nm).before args s = true) {ks : List Nat} {ns : List Int32}
    (hnm : s.vm.findClass nm = some (cA (ks.headD 0))) (hch : ab_ch s.vm cA ks) (hlen : ks.length = ns.length) (hd : ns.length = d) (hd0 : 0 < d) (hns : ∀ n ∈ ns, ¬ n < 0 ∧ n.toNatClampNeg ≤ 60000000) {h : List ab_E} (hz : H.size = B.1 + h.length) {rest : List Value}
    (hcells : cells + (ab_mk ks (ns.map (fun n => n.toNatClampNeg)) h.length).length ≤ R.cells) (hslots : slots + ab_z (ab_mk ks (ns.map (fun n => n.toNatClampNeg)) h.length) ≤ R.slots) (hdg : decode cc pc = .ok (.multianewarray index d, 4))
    (kk : ∀ H1 : Heap, H1 = H ++ ((ab_mk ks (ns.map (fun n => n.toNatClampNeg)) h.length).map (ab_cell B cA)).toArray → W p l e R s m args below meth c H1 locs (cells + (ab_mk ks (ns.map (fun n => n.toNatClampNeg)) h.length).length) (slots + ab_z (ab_mk ks (ns.map (fun n => n.toNatClampNeg)) h.length)) Q (F0 m (pc + 4) ls (.ref H.size :: rest))) :
    W p l e R s m args below meth c H locs cells slots Q (F0 m pc ls ((ns.map Value.int).reverse ++ rest)) := by
  subst hb
  intro T hT X
  have hpl : e.platform.magicAccessors = ({} : Platform).magicAccessors := by rw [X.admits.platform]
  obtain ⟨c0, hfc0, hcl⟩ := Cond.classLink_spec hown hclink e.platform hpl
  cases hnm.symm.trans hfc0
  obtain ⟨hg₁, hwarm₁, hready₁⟩ := State.classEntry (e := e) X.warmed hcl
  generalize T.vm.noted m.cls index (.cls (cA (ks.headD 0))) = vm₁ at hg₁ hwarm₁ hready₁
  have hal : s.vm.Alike vm₁ := hwarm₁.alike
  have X₁ := X.noted hwarm₁
  obtain ⟨hr1, hr2⟩ := X.roomAbove hcells hslots
  have hlim : ∀ n : Nat, n ≤ 60000000 → ¬ n > e.platform.arrayLengthLimit := fun n hn => by rw [Launch.admits_arrayLengthLimit X.admits]; omega
  have hbytes : ∀ n b : Nat, n ≤ 60000000 → b ≤ 8 → ¬ n * b > e.platform.maxHeapBytes := fun n b hn hb => by
    rw [Launch.admits_maxHeapBytes X.admits]
    have := Nat.mul_le_mul hn hb
    omega
  generalize hL : (ab_mk ks (ns.map (fun n => n.toNatClampNeg)) h.length).map (ab_cell B cA) = L at kk
  have XF := ab_pushL_stand L X₁
  have hLl : L.length = (ab_mk ks (ns.map (fun n => n.toNatClampNeg)) h.length).length := by rw [← hL, List.length_map]
  have hLz : (L.map (fun c => c.slots.size)).sum = ab_z (ab_mk ks (ns.map (fun n => n.toNatClampNeg)) h.length) := by rw [← hL]; exact ab_mk_z _ (ab_mk_arr _ _ _)
  rw [hLl, hLz] at XF
  obtain ⟨t, a1, b1⟩ := kk _ rfl (ab_pushL (T.setVm vm₁) L) (by rw [ab_pushL_eq, ← hT]; rfl) XF
  refine ⟨t, ?_, b1⟩
  have hdg' : decode c.code (F0 m pc ls ((ns.map Value.int).reverse ++ rest)).pc = .ok (.multianewarray index d, 4) := hdg
  generalize hgg : F0 m pc ls ((ns.map Value.int).reverse ++ rest) = g at hdg'
  have hgm : g.method = m := by rw [← hgg]
  have hstack : g.stack = (ns.map Value.int).reverse ++ rest := by rw [← hgg]
  have hg1 : F0 m (pc + 4) ls (.ref H.size :: rest) = { g with pc := g.pc + 4, stack := .ref T.heap.size :: rest } := by rw [← hgg, hT]
  rw [hg1] at a1
  subst hgm
  jvm_step X.here [hexec, hdg']
  simp only [Jvm.Op.multianewarray.sem, wp_bind', W.resolveClassAt_links (State.method?_setTop g X.here.top) hg₁]
  rw [W.popN, if_neg (by omega)]
  refine ⟨g, State.topJava?_setTop' (s := T.setVm vm₁) g X.here.top, ns.map Value.int, rest, by rw [List.length_map]; exact hd, hstack, ?_⟩
  rw [wp_bind']
  refine ab_ints_wp ns ?_
  have eS : ((T.setTop g).setVm vm₁).setTop { g with stack := rest } = (T.setVm vm₁).setTop { g with stack := rest } := by
    show ((T.setVm vm₁).setTop g).setTop _ = _
    rw [State.setTop_setTop]
  rw [eS, wp_bind']
  refine ab_wp_make (B := B) (cA := cA) hlim hbytes ks ns h.length _ _ _ _ (by show ab_ch vm₁ cA ks; exact hch.moved hal) hlen hns (by show T.heap.size = _; rw [hT]; exact hz) (by show T.heap.size + _ ≤ _; exact hr1) (by show T.slotsUsed + _ ≤ _; exact hr2) (fun d' acts' => ?_)
  rw [hL, ab_pushL_setTop]
  simp only [wp_bind', W.mark, W.pushRef, State.topJava?_setTop' _ XF.here.top, Option.some.injEq, exists_eq_left', State.setTop_setTop, State.heap_setTop]
  intro acts
  simp [jvm, XF.here.top]
  exact a1
end ABM

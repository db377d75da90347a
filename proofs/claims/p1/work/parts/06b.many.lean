/-! arrays of arrays: what 'make' of the machine lays down -/
def ab_cell (B : Nat × (Nat → Nat)) (cA : Nat → ClassId) : ab_E → Cell
  | .inr (.inl (t, x)) => vp_cell (cA t) (ab_sA B.1 x)
  | _ => arrV (cA 0) 0 (fun _ => .null)
def ab_pushL (s : State) : List Cell → State
  | [] => s
  | c :: L => ab_pushL (s.pushCell c) L
theorem ab_pushL_app : ∀ (L L' : List Cell) (s : State), ab_pushL s (L ++ L') = ab_pushL (ab_pushL s L) L'
  | [], _, _ => rfl
  | _ :: L, L', _ => ab_pushL_app L L' _
theorem ab_pushL_eq : ∀ (L : List Cell) (s : State), ab_pushL s L = { s with heap := s.heap ++ L.toArray, slotsUsed := s.slotsUsed + (L.map (fun c => c.slots.size)).sum }
  | [], s => by simp [ab_pushL]
  | c :: L, s => by
    show ab_pushL (s.pushCell c) L = _
    rw [ab_pushL_eq L]
    unfold State.pushCell
    simp [Nat.add_assoc]
theorem ab_pushL_vm (L : List Cell) (s : State) : (ab_pushL s L).vm = s.vm := by rw [ab_pushL_eq]
theorem ab_pushL_size (L : List Cell) (s : State) : (ab_pushL s L).heap.size = s.heap.size + L.length := by rw [ab_pushL_eq]; simp
theorem ab_pushL_slots (L : List Cell) (s : State) : (ab_pushL s L).slotsUsed = s.slotsUsed + (L.map (fun c => c.slots.size)).sum := by rw [ab_pushL_eq]
theorem ab_pushL_setTop (f : JFrame) : ∀ (L : List Cell) (s : State), ab_pushL (s.setTop f) L = (ab_pushL s L).setTop f
  | [], _ => rfl
  | c :: L, s => by
    show ab_pushL ((s.setTop f).pushCell c) L = (ab_pushL (s.pushCell c) L).setTop f
    rw [State.pushCell_setTop]
    exact ab_pushL_setTop f L _
theorem ab_pushL_set (L : List Cell) (s : State) (c c' : Cell) (hc : c'.slots.size = c.slots.size) : (ab_pushL s (c :: L)).setCell s.heap.size c' = ab_pushL s (c' :: L) := by
  rw [ab_pushL_eq, ab_pushL_eq]
  unfold State.setCell
  simp only [List.map_cons, List.sum_cons, hc]
  congr 1
  apply Array.ext_getElem?
  intro i
  rw [Array.getElem?_setIfInBounds]
  simp only [Array.size_append, List.size_toArray, List.length_cons]
  by_cases e : s.heap.size = i
  · subst e
    simp
  · rw [if_neg e]
    rcases Nat.lt_or_ge i s.heap.size with g | g
    · rw [Array.getElem?_append_left g, Array.getElem?_append_left g]
    · rw [Array.getElem?_append_right g, Array.getElem?_append_right g]
      obtain ⟨j, hj⟩ : ∃ j, i - s.heap.size = j + 1 := ⟨i - s.heap.size - 1, by omega⟩
      rw [hj]
      simp
theorem ab_cell_size (B : Nat × (Nat → Nat)) (cA : Nat → ClassId) (t : Nat) (x : ab_V) : (ab_cell B cA (.inr (.inl (t, x)))).slots.size = ab_len x := by
  rcases x with f | f | f <;> exact arrV_size _ _ _
theorem ab_sumc (z : Nat) : ∀ n : Nat, ((List.range n).map (fun _ => z)).sum = n * z
  | 0 => by simp
  | n + 1 => by
    rw [List.range_succ, List.map_append, List.sum_append, ab_sumc z n, Nat.succ_mul]
    simp
theorem ab_mk_len : ∀ (ks ns : List Nat) (b : Nat), ks.length = ns.length → (ab_mk ks ns b).length = ab_mkz ns
  | [], [], _, _ => rfl
  | [k], [n], _, _ => rfl
  | k :: k' :: ks, n :: n' :: ns, b, h => by
    have ih := fun b => ab_mk_len (k' :: ks) (n' :: ns) b (by simpa using h)
    show (_ :: (List.range n).flatMap (fun i => ab_mk (k' :: ks) (n' :: ns) (b + 1 + i * ab_mkz (n' :: ns)))).length = 1 + n * ab_mkz (n' :: ns)
    rw [List.length_cons, List.length_flatMap, Nat.add_comm]
    congr 1
    rw [show (List.range n).map (fun i => (ab_mk (k' :: ks) (n' :: ns) (b + 1 + i * ab_mkz (n' :: ns))).length) = (List.range n).map (fun _ => ab_mkz (n' :: ns)) from List.map_congr_left fun i _ => ih _]
    exact ab_sumc _ _
  | [], _ :: _, _, h => by cases h
  | _ :: _, [], _, h => by cases h
  | [_], _ :: _ :: _, _, h => by simp at h
  | _ :: _ :: _, [_], _, h => by simp at h
theorem ab_mk_arr : ∀ (ks ns : List Nat) (b : Nat), ∀ e ∈ ab_mk ks ns b, ∃ t x, e = .inr (.inl (t, x))
  | [k], [n], _, e, he => by
    rw [show ab_mk [k] [n] _ = [.inr (.inl (k, ab_d0 k n))] from rfl] at he
    exact ⟨_, _, List.mem_singleton.mp he⟩
  | k :: k' :: ks, n :: ns, b, e, he => by
    rw [show ab_mk (k :: k' :: ks) (n :: ns) b = .inr (.inl (k, .inr (.inr ((List.range n).map (fun i => some (b + 1 + i * ab_mkz ns)))))) :: (List.range n).flatMap (fun i => ab_mk (k' :: ks) ns (b + 1 + i * ab_mkz ns)) from rfl] at he
    rcases List.mem_cons.mp he with rfl | he
    · exact ⟨_, _, rfl⟩
    · obtain ⟨i, -, hi⟩ := List.mem_flatMap.mp he
      exact ab_mk_arr (k' :: ks) ns _ e hi
  | [], _, _, e, he => by simp [ab_mk] at he
  | [_], [], _, e, he => by simp [ab_mk] at he
  | [_], _ :: _ :: _, _, e, he => by simp [ab_mk] at he
  | _ :: _ :: _, [], _, e, he => by simp [ab_mk] at he
theorem ab_mk_z {B : Nat × (Nat → Nat)} {cA : Nat → ClassId} (L : List ab_E) (h : ∀ e ∈ L, ∃ t x, e = (.inr (.inl (t, x)) : ab_E)) : ((L.map (ab_cell B cA)).map (fun c => c.slots.size)).sum = ab_z L := by
  unfold ab_z
  rw [List.map_map]
  congr 1
  refine List.map_congr_left fun e he => ?_
  obtain ⟨t, x, rfl⟩ := h e he
  exact ab_cell_size B cA t x
/-- the classes of an array of arrays -/
def ab_ch (vm : Vm) (cA : Nat → ClassId) : List Nat → Prop
  | [] => False
  | [k] => ∃ (kc : Class) (comp : ClassId) (ty : FieldType), vm.classes[cA k]? = some kc ∧ kc.kind = .array comp ty ∧ componentBytes ty ≤ 8 ∧ fits ty (defaultValue ty) = true ∧ (defaultValue ty).isDefault = true ∧ ∀ (B : Nat × (Nat → Nat)) (n : Nat), ab_cell B cA (.inr (.inl (k, ab_d0 k n))) = { cls := cA k, slots := Array.replicate n (defaultValue ty), vm := .none }
  | k :: k' :: ks => (∃ (kc : Class) (ty : FieldType), vm.classes[cA k]? = some kc ∧ kc.kind = .array (cA k') ty ∧ ty.isReference = true ∧ componentBytes ty ≤ 8) ∧ ab_ch vm cA (k' :: ks)
theorem ab_ch.moved {vm vm' : Vm} {cA : Nat → ClassId} (h : vm.Alike vm') : ∀ {ks : List Nat}, ab_ch vm cA ks → ab_ch vm' cA ks
  | [], q => q
  | [k], ⟨kc, comp, ty, h1, h2, h3⟩ => by
    obtain ⟨k2, g1, g2⟩ := h.2.2 _ _ h1
    exact ⟨k2, comp, ty, g1, by rw [g2]; exact h2, h3⟩
  | k :: k' :: ks, ⟨⟨kc, ty, h1, h2, h3⟩, q⟩ => by
    obtain ⟨k2, g1, g2⟩ := h.2.2 _ _ h1
    exact ⟨⟨k2, ty, g1, by rw [g2]; exact h2, h3⟩, ab_ch.moved h q⟩
/-- the outermost array when its first i places are filled -/
def ab_part (b z n i : Nat) : ab_V := .inr (.inr ((List.range n).map (fun j => if j < i then some (b + 1 + j * z) else none)))
theorem ab_part_0 (B : Nat × (Nat → Nat)) (cA : Nat → ClassId) (k b z n : Nat) : ab_cell B cA (.inr (.inl (k, ab_part b z n 0))) = { cls := cA k, slots := Array.replicate n .null, vm := .none } := by
  unfold ab_cell ab_part ab_sA vp_cell arrV
  simp only [List.length_map, List.length_range, Nat.not_lt_zero, if_false]
  congr 1
  apply Array.ext_getElem?
  intro i
  by_cases e : i < n
  · simp [e, va_rf, List.getD]
  · simp [e]
theorem ab_part_n (b z n : Nat) : ab_part b z n n = .inr (.inr ((List.range n).map (fun j => some (b + 1 + j * z)))) := by
  unfold ab_part
  congr 2
  refine List.map_congr_left fun j hj => ?_
  rw [if_pos (List.mem_range.mp hj)]
theorem ab_part_succ (B : Nat × (Nat → Nat)) (cA : Nat → ClassId) (k b z n i : Nat) (hi : i < n) : (ab_cell B cA (.inr (.inl (k, ab_part b z n i)))).setSlot i (.ref (B.1 + (b + 1 + i * z))) = ab_cell B cA (.inr (.inl (k, ab_part b z n (i + 1)))) := by
  unfold ab_cell ab_part ab_sA vp_cell arrV Cell.setSlot
  simp only [List.length_map, List.length_range]
  congr 1
  apply Array.ext_getElem?
  intro j
  rw [Array.getElem?_setIfInBounds]
  by_cases e : i = j
  · subst e
    simp [hi, va_rf, List.getD]
  · rw [if_neg e]
    by_cases g : j < n
    · have e2 : (j < i) ↔ (j < i + 1) := by omega
      simp [g, va_rf, List.getD, e2]
    · simp [g]
theorem ab_part_facts (B : Nat × (Nat → Nat)) (cA : Nat → ClassId) (k b z n i : Nat) : (ab_cell B cA (.inr (.inl (k, ab_part b z n i)))).cls = cA k ∧ (ab_cell B cA (.inr (.inl (k, ab_part b z n i)))).vm = .none ∧ (ab_cell B cA (.inr (.inl (k, ab_part b z n i)))).slots.size = n := by
  refine ⟨rfl, rfl, ?_⟩
  rw [ab_cell_size]
  simp [ab_part, ab_len]
theorem ab_mkz_le (ns : List Nat) (n : Nat) : n * ab_mkz ns ≤ ab_mkz (n :: ns) := by
  cases ns with
  | nil => simp [ab_mkz]
  | cons a ns => simp [ab_mkz]
theorem ab_range_flat (n i : Nat) (hi : i < n) (f : Nat → List ab_E) : (List.range (i + 1)).flatMap f = (List.range i).flatMap f ++ f i := by
  rw [List.range_succ, List.flatMap_append, List.flatMap_singleton]
theorem ab_sub_z (f : Nat → List ab_E) : ∀ n i, i ≤ n → ab_z ((List.range i).flatMap f) ≤ ab_z ((List.range n).flatMap f) ∧ ((List.range i).flatMap f).length ≤ ((List.range n).flatMap f).length
  | 0, i, h => by
    have : i = 0 := by omega
    subst this
    exact ⟨Nat.le_refl _, Nat.le_refl _⟩
  | n + 1, i, h => by
    rcases Nat.lt_or_ge i (n + 1) with g | g
    · have ih := ab_sub_z f n i (by omega)
      rw [ab_range_flat (n + 1) n (by omega), ab_z_app, List.length_append]
      omega
    · have : i = n + 1 := by omega
      subst this
      exact ⟨Nat.le_refl _, Nat.le_refl _⟩
set_option maxHeartbeats 4000000 in
/-- THE MACHINE's 'make' of an array of arrays -/
theorem ab_wp_make {E : CtlPost} {e : Env} {B : Nat × (Nat → Nat)} {cA : Nat → ClassId} (hlim : ∀ n : Nat, n ≤ 60000000 → ¬ n > e.platform.arrayLengthLimit) (hbytes : ∀ n b : Nat, n ≤ 60000000 → b ≤ 8 → ¬ n * b > e.platform.maxHeapBytes) :
    ∀ (ks : List Nat) (ns : List Int32) (k0 : Nat) (s : State) (d : Bool) (acts : List Action) (Q : Addr → Pre), ab_ch s.vm cA ks → ks.length = ns.length → (∀ n ∈ ns, ¬ n < 0 ∧ n.toNatClampNeg ≤ 60000000) → s.heap.size = B.1 + k0 →
      s.heap.size + (ab_mk ks (ns.map (fun n => n.toNatClampNeg)) k0).length ≤ e.platform.maxCells → s.slotsUsed + ab_z (ab_mk ks (ns.map (fun n => n.toNatClampNeg)) k0) ≤ e.platform.maxSlots →
      (∀ d' acts', Q s.heap.size d' acts' (ab_pushL s ((ab_mk ks (ns.map (fun n => n.toNatClampNeg)) k0).map (ab_cell B cA)))) → wp (Jvm.Op.multianewarray.make (cA (ks.headD 0)) ns) Q E e d acts s
  | [], ns, _, _, _, _, _, hch, _, _, _, _, _, _ => hch.elim
  | [k], ns, k0, s, d, acts, Q, hch, hlen, hns, hsz, hc, hs, hq => by
    obtain ⟨n, rfl⟩ : ∃ n, ns = [n] := by
      match ns, hlen with
      | [n], _ => exact ⟨n, rfl⟩
    obtain ⟨kc, comp, ty, h1, h2, h3, h4, h5, h6⟩ := hch
    obtain ⟨n1, n2⟩ := hns n List.mem_cons_self
    have e1 : (ab_mk [k] ([n].map (fun n => n.toNatClampNeg)) k0).map (ab_cell B cA) = [Jvm.Free.Multi.innerC (cA k) n.toNatClampNeg (defaultValue ty)] := by
      show [ab_cell B cA (.inr (.inl (k, ab_d0 k n.toNatClampNeg)))] = _
      rw [h6]
      rfl
    have e2 : ab_z (ab_mk [k] ([n].map (fun n => n.toNatClampNeg)) k0) = n.toNatClampNeg := by
      rw [← ab_mk_z (B := B) (cA := cA) _ (ab_mk_arr _ _ _), e1]
      simp [Jvm.Free.Multi.innerC]
    rw [e2] at hs
    rw [e1] at hq
    rw [show (ab_mk [k] ([n].map (fun n => n.toNatClampNeg)) k0).length = 1 from rfl] at hc
    exact Jvm.Free.Multi.wp_make1 h1 h2 n1 (hlim _ n2) (hbytes _ _ n2 h3) h4 h5 (by omega) hs (hq _ _)
  | k :: k' :: ks, ns, k0, s, d, acts, Q, hch, hlen, hns, hsz, hc, hs, hq => by
    obtain ⟨n, m, ns, rfl⟩ : ∃ n m ns', ns = n :: m :: ns' := by
      match ns, hlen with
      | n :: m :: ns', _ => exact ⟨n, m, ns', rfl⟩
    obtain ⟨⟨kc, ty, h1, h2, h3, h4⟩, hch'⟩ := hch
    obtain ⟨n1, n2⟩ := hns n List.mem_cons_self
    have hns' : ∀ x ∈ m :: ns, ¬ x < 0 ∧ x.toNatClampNeg ≤ 60000000 := fun x hx => hns x (List.mem_cons_of_mem _ hx)
    generalize hf : (fun i : Nat => ab_mk (k' :: ks) ((m :: ns).map (fun n => n.toNatClampNeg)) (k0 + 1 + i * ab_mkz ((m :: ns).map (fun n => n.toNatClampNeg)))) = f
    generalize hz : ab_mkz ((m :: ns).map (fun n => n.toNatClampNeg)) = z at hf
    have hfl : ∀ i, (f i).length = z := fun i => by
      rw [← hf, ← hz]
      exact ab_mk_len _ _ _ (by simpa using hlen)
    have hfa : ∀ i, ∀ e ∈ f i, ∃ t x, e = (.inr (.inl (t, x)) : ab_E) := fun i => by
      rw [← hf]
      exact ab_mk_arr _ _ _
    have hmk : ab_mk (k :: k' :: ks) ((n :: m :: ns).map (fun n => n.toNatClampNeg)) k0 = .inr (.inl (k, ab_part k0 z n.toNatClampNeg n.toNatClampNeg)) :: (List.range n.toNatClampNeg).flatMap f := by
      rw [ab_part_n, ← hf, ← hz]
      rfl
    rw [hmk] at hc hs hq
    rw [List.length_cons] at hc
    rw [show ∀ (x : ab_E) L, ab_z (x :: L) = ab_z1 x + ab_z L from fun x L => by unfold ab_z; rw [List.map_cons, List.sum_cons]] at hs
    have hz1 : ab_z1 (.inr (.inl (k, ab_part k0 z n.toNatClampNeg n.toNatClampNeg))) = n.toNatClampNeg := by simp [ab_z1, ab_part, ab_len]
    rw [hz1] at hs
    have hfind : ((m :: ns).find? (· < 0)) = none := by
      rw [List.find?_eq_none]
      intro x hx
      simpa using (hns' x hx).1
    show wp (Jvm.Op.multianewarray.make (cA k) (n :: m :: ns)) Q E e d acts s
    rw [Jvm.Op.multianewarray.make]
    simp only [wp_bind', W.ite, n1, if_false, wp_pure', W.theClass, h1, h2, Option.some.injEq, exists_eq_left']
    refine Jvm.Free.Multi.wp_newArray h1 h2 (hlim _ n2) (hbytes _ _ n2 h4) (Jvm.Free.Multi.refFits h3 _ (Or.inl rfl)) rfl (by omega) (by omega) ?_
    simp only [hfind]
    rw [ite_self, wp_bind', Std.Legacy.Range.forIn_eq_forIn_range']
    have hsz2 : ([:n.toNatClampNeg] : Std.Legacy.Range).size = n.toNatClampNeg := by simp [Std.Legacy.Range.size]
    rw [hsz2]
    show wp (forIn (List.range' 0 n.toNatClampNeg 1) PUnit.unit _) _ E e d acts _
    refine wp_forIn_inv (fun rest s' => ∃ i, i ≤ n.toNatClampNeg ∧ rest = List.range' i (n.toNatClampNeg - i) ∧ s' = ab_pushL s ((.inr (.inl (k, ab_part k0 z n.toNatClampNeg i)) :: (List.range i).flatMap f).map (ab_cell B cA))) _ _ ⟨0, Nat.zero_le _, rfl, ?_⟩ ?_ ?_
    · show _ = s.pushCell (ab_cell B cA (.inr (.inl (k, ab_part k0 z n.toNatClampNeg 0))))
      rw [ab_part_0]
    · rintro x rest s' d' acts' Q' ⟨i, hi, hl, rfl⟩ hnext
      have hlt : i < n.toNatClampNeg := by
        rcases Nat.lt_or_ge i n.toNatClampNeg with h | h
        · exact h
        · rw [show n.toNatClampNeg - i = 0 from by omega] at hl; simp at hl
      obtain ⟨rfl, hrest⟩ : x = i ∧ rest = List.range' (i + 1) (n.toNatClampNeg - (i + 1)) := by
        rw [show n.toNatClampNeg - i = (n.toNatClampNeg - (i + 1)) + 1 from by omega, List.range'_succ] at hl
        exact ⟨(List.cons.inj hl).1, (List.cons.inj hl).2⟩
      obtain ⟨o1, o2, o3⟩ := ab_part_facts B cA k k0 z n.toNatClampNeg x
      generalize hX : (.inr (.inl (k, ab_part k0 z n.toNatClampNeg x)) :: (List.range x).flatMap f).map (ab_cell B cA) = X
      have hXl : X.length = 1 + x * z := by
        rw [← hX, List.length_map, List.length_cons, List.length_flatMap, show (List.range x).map (fun i => (f i).length) = (List.range x).map (fun _ => z) from List.map_congr_left fun i _ => hfl i, ab_sumc, Nat.add_comm]
      have hXz : (X.map (fun c => c.slots.size)).sum = n.toNatClampNeg + ab_z ((List.range x).flatMap f) := by
        rw [← hX, List.map_cons, List.map_cons, List.sum_cons, o3, ab_mk_z _ (fun e he => by
          obtain ⟨i, -, hi⟩ := List.mem_flatMap.mp he
          exact hfa i e hi)]
      obtain ⟨b1, b2⟩ := ab_sub_z f n.toNatClampNeg (x + 1) hlt
      rw [ab_range_flat n.toNatClampNeg x hlt, ab_z_app] at b1
      rw [ab_range_flat n.toNatClampNeg x hlt, List.length_append, hfl] at b2
      have b3 : ((List.range x).flatMap f).length = x * z := by
        rw [List.length_flatMap, show (List.range x).map (fun i => (f i).length) = (List.range x).map (fun _ => z) from List.map_congr_left fun i _ => hfl i, ab_sumc]
      have hfx : f x = ab_mk (k' :: ks) ((m :: ns).map (fun n => n.toNatClampNeg)) (k0 + 1 + x * z) := by rw [← hf]
      simp only [wp_bind']
      refine ab_wp_make (B := B) (cA := cA) hlim hbytes (k' :: ks) (m :: ns) (k0 + 1 + x * z) _ _ _ _ (by rw [ab_pushL_vm]; exact hch') (by simpa using hlen) hns' (by rw [ab_pushL_size, hXl]; omega) (by rw [← hfx, ab_pushL_size, hXl, hfl]; omega) (by rw [← hfx, ab_pushL_slots, hXz]; omega) ?_
      intro d2 acts2
      rw [← hfx, ← ab_pushL_app]
      simp only [wp_bind', W.writeLoc, wp_pure']
      have hcell : (ab_pushL s (X ++ (f x).map (ab_cell B cA))).heap[s.heap.size]? = some (ab_cell B cA (.inr (.inl (k, ab_part k0 z n.toNatClampNeg x)))) := by
        rw [← hX, ab_pushL_eq]
        simp
      refine ⟨_, hcell, by rw [o2]; simp, by rw [o3]; exact hlt, ?_, hnext _ _ _ ⟨x + 1, hlt, hrest, ?_⟩⟩
      · rw [o1, o2]
        simp [State.fitsSlot, State.slotType?, ab_pushL_vm, h1, h2, Jvm.Free.Multi.refFits h3 _ (Or.inr ⟨_, rfl⟩)]
      · rw [ab_pushL_size, hXl, show s.heap.size + (1 + x * z) = B.1 + (k0 + 1 + x * z) by omega, ab_part_succ B cA k k0 z n.toNatClampNeg x hlt, ← hX, List.map_cons, List.cons_append, ab_pushL_set _ _ _ _ (by rw [o3, (ab_part_facts B cA k k0 z n.toNatClampNeg (x + 1)).2.2])]
        rw [ab_range_flat n.toNatClampNeg x hlt, List.map_cons, List.map_append]
    · rintro s' d' acts' ⟨i, hi, hl, rfl⟩
      have hiN : i = n.toNatClampNeg := by
        rcases Nat.lt_or_ge i n.toNatClampNeg with h | h
        · rw [show n.toNatClampNeg - i = (n.toNatClampNeg - (i + 1)) + 1 from by omega, List.range'_succ] at hl; cases hl
        · omega
      subst hiN
      simp only [wp_pure']
      exact hq _ _

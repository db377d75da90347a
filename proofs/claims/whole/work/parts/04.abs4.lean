/-! writes to the heap, new cells, constants -/
/-- what is outside fits as any reference does -/
def ab_un : Value → Value
  | .retAddr _ => .ref 0
  | v => v
theorem ab_fits_rl (B : Nat × (Nat → Nat)) (ty : FieldType) (v : Value) : fits ty (ab_rl B v) = fits ty (ab_un v) := by
  cases v <;> cases ty <;> rfl
theorem ab_narrow_rl (B : Nat × (Nat → Nat)) (ty : FieldType) (v : Value) (h : narrow ty v = v) : narrow ty (ab_rl B v) = ab_rl B v := by
  cases v with
  | ref k => cases ty <;> rfl
  | retAddr k => cases ty <;> rfl
  | _ => exact h
def ab_s5 (fT : ab_FT) (oc : Nat → Option FieldType) (cl : List vw_C) (h : List ab_E) : Instr → Nat → List Value → Option (List Value × List ab_E)
  | .putfield ix, 3, v :: .ref a :: r => (fT ix).bind fun q => (ab_obj h a q.1).bind fun fs => if q.2.2.2 = true ∧ q.2.1 < fs.length ∧ narrow q.2.2.1 v = v ∧ fits q.2.2.1 (ab_un v) = true then some (r, h.set a (.inr (.inr (q.1, fs.set q.2.1 v)))) else none
  | .iastore, 1, .int x :: .int i :: .ref a :: r => (ab_arI h a 0).bind fun l => if i < 0 ∨ l.length ≤ i.toNatClampNeg then none else some (r, h.set a (.inr (.inl (0, .inl (l.set i.toNatClampNeg x)))))
  | .lastore, 1, .long x :: .int i :: .ref a :: r => (ab_arL h a).bind fun l => if i < 0 ∨ l.length ≤ i.toNatClampNeg then none else some (r, h.set a (.inr (.inl (1, .inr (.inl (l.set i.toNatClampNeg x))))))
  | .bastore, 1, .int x :: .int i :: .ref a :: r => match ab_arI h a 2 with
    | some l => if i < 0 ∨ l.length ≤ i.toNatClampNeg then none else some (r, h.set a (.inr (.inl (2, .inl (l.set i.toNatClampNeg (vp_nar .byte x))))))
    | none => (ab_arI h a 3).bind fun l => if i < 0 ∨ l.length ≤ i.toNatClampNeg then none else some (r, h.set a (.inr (.inl (3, .inl (l.set i.toNatClampNeg (vp_nar .boolean x))))))
  | .aastore, 1, .ref v :: .int i :: .ref a :: r => (ab_arR h a).bind fun q => match h[v]? with
    | some (.inr (.inr (ci, _))) => if i < 0 ∨ q.2.length ≤ i.toNatClampNeg then none else if (cl[ci]?).map (fun z => FieldType.object z.1) = oc (q.1 - 4) ∧ (oc (q.1 - 4)).isSome = true then some (r, h.set a (.inr (.inl (q.1, .inr (.inr (q.2.set i.toNatClampNeg (some v))))))) else none
    | _ => none
  | _, _, _ => none
theorem ab_S_trans {A : Nat → Prop} {H0 H H1 : Heap} {l0 l1 : List Loc} (h : va_S A H0 H l0) (g : va_S A H H1 l1) : va_S A H0 H1 l1 :=
  ⟨Nat.le_trans h.1 g.1, fun q h1 h2 => (g.2.1 q (Nat.lt_of_lt_of_le h1 h.1) h2).trans (h.2.1 q h1 h2), g.2.2⟩
theorem ab_set_upN (b : Nat) (l : List (Option Nat)) {i : Nat} (h : i < l.length) : (fun j => ((l.set i none).getD j none).map (fun k => b + k)) = va_up (fun j => (l.getD j none).map (fun k => b + k)) i none := by
  funext j
  unfold va_up
  by_cases e : j = i
  · subst e
    simp [List.getD, h]
  · rw [if_neg e]
    simp [List.getD, List.getElem?_set_ne (Ne.symm e)]
section AB5
variable {p : Program} {l : Launch} {e : Env} {R : Room} {s : State} {m : MethodId} {args : Array Value} {below : List Frame} {meth : Method} {c : Code} {H : Heap} {locs : List Loc} {cells slots : Nat} {Q : State → Prop}
variable {cc : ByteArray} {pc : Nat} {ls : Array Slot} {B : Nat × (Nat → Nat)} {D : va_G} {cl : List vw_C} {tys : List (ClassId × FieldType)} {cA : Nat → ClassId} {oc : Nat → Option FieldType}
set_option maxHeartbeats 4000000 in
theorem ab_s5_ok (hx : p.tables.exec = Jvm.exec) (hb : c.code = cc) {own : String} {isI : Bool} {Ts : List Cond} (hts : ∀ w ∈ Ts, w.before args s = true) (hown : s.vm.findClass own = some m.cls) (hin : isI = true → meth.name = "<init>") {fT : ab_FT} (hF : ab_Fd own isI Ts cl fT) (hT : ab_Ty cA oc tys) (hK : va_K D cl tys s) {h h' : List ab_E} (hP : va_P D cl (ab_W B cA h) H) (hS0 : va_S (fun q : Nat => B.1 ≤ q) s.heap H locs) {i : Instr} {k : Nat} {st st' : List Value} (hdg : decode cc pc = .ok (i, k)) (hs : ab_s5 fT oc cl h i k st = some (st', h'))
    (K : ∀ (H1 : Heap) (locs1 : List Loc), va_P D cl (ab_W B cA h') H1 → va_S (fun q : Nat => B.1 ≤ q) s.heap H1 locs1 → H.size ≤ H1.size → W p l e R s m args below meth c H1 locs1 cells slots Q (F0 m (pc + k) ls (st'.map (ab_rl B)))) : W p l e R s m args below meth c H locs cells slots Q (F0 m pc ls (st.map (ab_rl B))) := by
  have hD := ab_D B cA h
  have hS : va_S (fun q : Nat => B.1 ≤ q) H H locs := ⟨Nat.le_refl _, fun _ _ _ => rfl, hS0.2.2⟩
  unfold ab_s5 at hs
  split at hs
  · obtain ⟨⟨ci, j, ty, ok⟩, h1, h2⟩ := Option.bind_eq_some_iff.mp hs
    obtain ⟨fs, h3, h4⟩ := Option.bind_eq_some_iff.mp h2
    split at h4
    · rename_i hq
      cases h4
      obtain ⟨q1, q2, q3, q4⟩ := hq
      dsimp only at q1 q2 q3 q4
      obtain ⟨C, T, N, ty0, g1, g2, g3, g4, g5, g6, g7, g8⟩ := hF _ _ _ _ _ h1
      have hd : parseFieldDescriptor (T j).2.2.1 = some ty := by rw [g5 j g2, g7]
      have hn := ab_narrow_rl B _ _ q3
      have hf := (ab_fits_rl B _ _).trans q4
      have hl : j < (fs.map (ab_rl B)).length := by rw [List.length_map]; exact q2
      obtain ⟨j0, hj0⟩ := ab_W_at (B := B) (cA := cA) (ab_obj_eq h3) rfl
      rcases g4 with g4 | ⟨ref, g4, gS⟩
      · rcases g8 q1 with g9 | ⟨g9, g10, g11⟩
        · refine va_put hx hb hts g3 ty0 g5 g6 hown hK hP hD hS j0 hj0 g1 j g2 (hts _ g4) (fun _ z => z) g9 hd hn hf hl hdg (fun H1 locs1 a1 a2 a3 => K H1 locs1 ?_ (ab_S_trans hS0 a3) a3.1)
          rw [← List.map_set] at a1
          exact ab_P_set hj0 rfl a1
        · refine va_putF hx hb hts g3 ty0 g5 g6 hown hK hP hD hS j0 hj0 g1 j g2 (hts _ g4) (fun _ z => z) g9 (hin g10) g11 hd hn hf hl hdg (fun H1 locs1 a1 a2 a3 => K H1 locs1 ?_ (ab_S_trans hS0 a3) a3.1)
          rw [← List.map_set] at a1
          exact ab_P_set hj0 rfl a1
      · rcases g8 q1 with g9 | ⟨g9, g10, g11⟩
        · refine va_put hx hb hts g3 ty0 g5 g6 hown hK hP hD hS j0 hj0 g1 j g2 (hts _ g4) (ab_same (hts _ gS)) g9 hd hn hf hl hdg (fun H1 locs1 a1 a2 a3 => K H1 locs1 ?_ (ab_S_trans hS0 a3) a3.1)
          rw [← List.map_set] at a1
          exact ab_P_set hj0 rfl a1
        · refine va_putF hx hb hts g3 ty0 g5 g6 hown hK hP hD hS j0 hj0 g1 j g2 (hts _ g4) (ab_same (hts _ gS)) g9 (hin g10) g11 hd hn hf hl hdg (fun H1 locs1 a1 a2 a3 => K H1 locs1 ?_ (ab_S_trans hS0 a3) a3.1)
          rw [← List.map_set] at a1
          exact ab_P_set hj0 rfl a1
    · cases h4
  · obtain ⟨f, h1, h2⟩ := Option.bind_eq_some_iff.mp hs
    split at h2
    · cases h2
    · rename_i hi
      cases h2
      obtain ⟨j0, hj0⟩ := ab_W_at (B := B) (cA := cA) (ab_arI_eq h1) rfl
      refine va_iast hx hb hK hP hD hS j0 0 hj0 hT.1 hi hdg (fun H1 locs1 a1 a2 a3 => K H1 locs1 ?_ (ab_S_trans hS0 a3) a3.1)
      refine ab_P_set hj0 (x' := _) ?_ a1
      show some (Sum.inl (cA _, ab_sA B.1 (.inl _))) = some (Sum.inl (cA _, _))
      simp only [ab_sA, List.length_set, ab_set_upd _ _ (Nat.not_le.mp fun z => hi (Or.inr z))]
  · obtain ⟨f, h1, h2⟩ := Option.bind_eq_some_iff.mp hs
    split at h2
    · cases h2
    · rename_i hi
      cases h2
      obtain ⟨j0, hj0⟩ := ab_W_at (B := B) (cA := cA) (ab_arL_eq h1) rfl
      refine va_last hx hb hK hP hD hS j0 1 hj0 hT.2.1 hi hdg (fun H1 locs1 a1 a2 a3 => K H1 locs1 ?_ (ab_S_trans hS0 a3) a3.1)
      refine ab_P_set hj0 (x' := _) ?_ a1
      show some (Sum.inl (cA _, ab_sA B.1 (.inr (.inl _)))) = some (Sum.inl (cA _, _))
      simp only [ab_sA, List.length_set, ab_set_updL _ _ (Nat.not_le.mp fun z => hi (Or.inr z))]
  · split at hs
    · rename_i h1
      split at hs
      · cases hs
      · rename_i hi
        cases hs
        obtain ⟨j0, hj0⟩ := ab_W_at (B := B) (cA := cA) (ab_arI_eq h1) rfl
        refine va_bast hx hb hK hP hD hS j0 2 hj0 hT.2.2.1 hi hdg (fun H1 locs1 a1 a2 a3 => K H1 locs1 ?_ (ab_S_trans hS0 a3) a3.1)
        refine ab_P_set hj0 (x' := _) ?_ a1
        show some (Sum.inl (cA _, ab_sA B.1 (.inl _))) = some (Sum.inl (cA _, _))
        simp only [ab_sA, List.length_set, ab_set_upd _ _ (Nat.not_le.mp fun z => hi (Or.inr z))]
    · obtain ⟨f, h1, h2⟩ := Option.bind_eq_some_iff.mp hs
      split at h2
      · cases h2
      · rename_i hi
        cases h2
        obtain ⟨j0, hj0⟩ := ab_W_at (B := B) (cA := cA) (ab_arI_eq h1) rfl
        refine va_zast hx hb hK hP hD hS j0 3 hj0 hT.2.2.2.1 hi hdg (fun H1 locs1 a1 a2 a3 => K H1 locs1 ?_ (ab_S_trans hS0 a3) a3.1)
        refine ab_P_set hj0 (x' := _) ?_ a1
        show some (Sum.inl (cA _, ab_sA B.1 (.inl _))) = some (Sum.inl (cA _, _))
        simp only [ab_sA, List.length_set, ab_set_upd _ _ (Nat.not_le.mp fun z => hi (Or.inr z))]
  · obtain ⟨⟨u, f⟩, h1, h2⟩ := Option.bind_eq_some_iff.mp hs
    split at h2
    · rename_i hv
      split at h2
      · cases h2
      · rename_i hi
        split at h2
        · rename_i hq
          cases h2
          obtain ⟨q1, q2⟩ := hq
          obtain ⟨h3, h4⟩ := ab_arR_eq h1
          obtain ⟨C, hC⟩ := Option.isSome_iff_exists.mp q2
          dsimp only at q1 hC
          rw [hC] at q1
          obtain ⟨r, r1, r2⟩ := Option.map_eq_some_iff.mp q1
          have ht := hT.2.2.2.2 _ _ hC
          rw [show u - 4 + 4 = u by omega, ← r2] at ht
          obtain ⟨j0, hj0⟩ := ab_W_at (B := B) (cA := cA) h3 rfl
          obtain ⟨j1, hj1⟩ := ab_W_at (B := B) (cA := cA) hv rfl
          refine va_astq hx hb hK hP hD hS j0 u j1 _ hj0 ht hj1 r1 hi hdg (fun H1 locs1 a1 a2 a3 => K H1 locs1 ?_ (ab_S_trans hS0 a3) a3.1)
          refine ab_P_set hj0 (x' := _) ?_ a1
          show some (Sum.inl (cA _, ab_sA B.1 (.inr (.inr _)))) = some (Sum.inl (cA _, _))
          simp only [ab_sA, List.length_set, ab_set_up _ _ _ (Nat.not_le.mp fun z => hi (Or.inr z))]
        · cases h2
    · cases h2
  · cases hs
/-- how large the heap is at most -/
theorem ab_size {g : JFrame} (k : H.size ≤ s.heap.size + cells → W p l e R s m args below meth c H locs cells slots Q g) : W p l e R s m args below meth c H locs cells slots Q g :=
  fun T hT X => k (by rw [← hT]; exact X.heapSize) T hT X
end AB5

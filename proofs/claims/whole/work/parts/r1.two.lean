/-! TWO HEAPS IN ONE -/
def EmP (f : Nat → Nat) (h0 h : List ab_E) : Prop := (∀ k e, h0[k]? = some e → h[f k]? = some (ab_rnE f e)) ∧ (∀ j k, j < h0.length → k < h0.length → f j = f k → j = k) ∧ FxH (cfN h0.length) h0
def emF (f : Nat → Nat) (n m : Nat) (k : Nat) : Nat := if k < n then f k else m + (k - n)
section TWO
variable {f fC fR : Nat → Nat} {h0 h h1 h' hc hr : List ab_E} {G : ab_G} {T : ab_GT} {o : Int64}
theorem emF_lt {n m k : Nat} (h : k < n) : emF f n m k = f k := if_pos h
theorem emF_ge {n m j : Nat} : emF f n m (n + j) = m + j := by
  unfold emF
  rw [if_neg (by omega)]
  omega
theorem EmP.lt (E : EmP f h0 h) {k : Nat} (hk : k < h0.length) : f k < h.length := (List.getElem?_eq_some_iff.mp (E.1 k _ (List.getElem?_eq_getElem hk))).1
theorem EmP.emb (E : EmP f h0 h) : ab_emb (emF f h0.length h.length) h0 h := by
  refine ⟨fun k e hk => ?_, fun j k q => ?_, fun j => emF_ge⟩
  · have hl := (List.getElem?_eq_some_iff.mp hk).1
    rw [emF_lt hl, rnE_ag (n := h0.length) (f := emF f h0.length h.length) (g := f) (fun k z => emF_lt z) (E.2.2 e (List.mem_of_getElem? hk))]
    exact E.1 k e hk
  · by_cases a : j < h0.length
    · by_cases b : k < h0.length
      · rw [emF_lt a, emF_lt b] at q
        exact E.2.1 j k a b q
      · have b2 := E.lt a
        rw [emF_lt a, show k = h0.length + (k - h0.length) by omega, emF_ge] at q
        omega
    · by_cases b : k < h0.length
      · have b2 := E.lt b
        rw [emF_lt b, show j = h0.length + (j - h0.length) by omega, emF_ge] at q
        omega
      · rw [show j = h0.length + (j - h0.length) by omega, show k = h0.length + (k - h0.length) by omega, emF_ge, emF_ge] at q
        omega
/-- a run on the small heap, in the large one -/
theorem em_run (hG : ab_pure G) (E : EmP f h0 h) (h0l : 0 < h0.length) {d : Nat} {M : ab_MX} {lv : Nat → ab_L} (hlv : ∀ g : Nat → Nat, ab_rnL g (lv 0) = lv (g 0)) {Q0 : ab_RX → List ab_E → Prop} (e : ab_fin G T d M 0 (lv 0) [] h0 Q0) :
    ∃ r0 h1 f' h', Q0 r0 h1 ∧ ab_ev G T d M 0 (lv (f 0)) [] h (ab_rnR f' r0) h' ∧ EmP f' h1 h' ∧ (∀ k, k < h0.length → f' k = f k) ∧ (∀ k, h0.length ≤ k → h.length ≤ f' k) ∧ (∀ j, j < h.length → (∀ k, k < h0.length → f k ≠ j) → h'[j]? = h[j]?) ∧ h'.length + h0.length = h.length + h1.length ∧ ab_z h' + ab_z h0 = ab_z h + ab_z h1 ∧ h0.length ≤ h1.length := by
  obtain ⟨r0, h1, ⟨n, ev⟩, q⟩ := e
  have em := E.emb
  obtain ⟨h', ev2, s1, s2, s3, s4, s5⟩ := ab_rx_rn hG n d M 0 (lv 0) [] h0 h h1 r0 ev em
  refine ⟨r0, h1, emF f h0.length h.length, h', q, ⟨n, ?_⟩, ⟨s1.1, fun j k _ _ => s1.2.1 j k, ?_⟩, fun k z => emF_lt z, fun k z => ?_, fun j hj hk => s2 j hj (fun k z => ?_), s3, s4, s5⟩
  · rw [hlv, emF_lt h0l] at ev2
    exact ev2
  · have c0 : cfN h1.length 0 = 0 := cf_id (by omega)
    exact (fx_rx hG (f := cfN h1.length) (N := h1.length) (fun k z => cf_id z) n d M 0 (lv 0) [] h0 h1 r0 ev (Nat.le_refl _) (by rw [hlv, c0]) rfl (fun e he => by
      have e1 := E.2.2 e he
      exact (rnE_ag (n := h0.length) (f := cfN h1.length) (g := cfN h0.length) (fun k z => by rw [cf_id z, cf_id (by omega)]) e1).trans e1)).2
  · rw [show k = h0.length + (k - h0.length) by omega, emF_ge]
    omega
  · rw [emF_lt z]
    exact hk k z
def Two (h hc hr : List ab_E) (o : Int64) (fC fR : Nat → Nat) : Prop :=
  EmP fC hc h ∧ EmP fR hr h ∧ (∀ j k, j < hc.length → k < hr.length → fC j ≠ fR k) ∧ ((∀ j, j < hc.length → fC j ≠ 3467) ∧ ∀ k, k < hr.length → fR k ≠ 3467) ∧ h[3467]? = some (.inr (.inl (1, .inr (.inl [o])))) ∧ (0 < hc.length ∧ fC 0 = 0) ∧ (0 < hr.length ∧ fR 0 = 102) ∧ h.length = hc.length + hr.length + 1 ∧ ab_z h = ab_z hc + ab_z hr + 1
theorem EmP.keep (E : EmP f h0 h) (hk : ∀ k, k < h0.length → h'[f k]? = h[f k]?) : EmP f h0 h' := ⟨fun k e z => by
  rw [hk k (List.getElem?_eq_some_iff.mp z).1]
  exact E.1 k e z, E.2⟩
theorem Two.C (hG : ab_pure G) (W : Two h hc hr o fC fR) {d : Nat} {M : ab_MX} (lv : Nat → ab_L) (hlv : ∀ g : Nat → Nat, ab_rnL g (lv 0) = lv (g 0)) {Q0 : ab_RX → List ab_E → Prop} (e : ab_fin G T d M 0 (lv 0) [] hc Q0) {Q : ab_RX → List ab_E → Prop}
    (go : ∀ r0 hc' fC' h', Q0 r0 hc' → Two h' hc' hr o fC' fR → Q (ab_rnR fC' r0) h') : ab_fin G T d M 0 (lv 0) [] h Q := by
  obtain ⟨E1, E2, dj, ⟨n1, n2⟩, ho, ⟨c0, c1⟩, ⟨r0, r1⟩, hl, hz⟩ := W
  obtain ⟨r, h1, f', h', q, ev, s1, s2, s3, s4, s5, s6, s7⟩ := em_run hG E1 c0 hlv e
  rw [c1] at ev
  have h3 := (List.getElem?_eq_some_iff.mp ho).1
  refine ⟨_, h', ev, go r h1 f' h' q ⟨s1, E2.keep (fun k hk => s4 _ (E2.lt hk) (fun j hj => dj j k hj hk)), fun j k hj hk => ?_, ⟨fun j hj => ?_, n2⟩, (s4 _ h3 n1).trans ho, ⟨by omega, by rw [s2 0 c0]; exact c1⟩, ⟨r0, r1⟩, by omega, by omega⟩⟩
  · by_cases a : j < hc.length
    · rw [s2 j a]
      exact dj j k a hk
    · have b1 := s3 j (by omega)
      have b2 := E2.lt hk
      omega
  · by_cases a : j < hc.length
    · rw [s2 j a]
      exact n1 j a
    · have b1 := s3 j (by omega)
      omega
theorem Two.R (hG : ab_pure G) (W : Two h hc hr o fC fR) {d : Nat} {M : ab_MX} (lv : Nat → ab_L) (hlv : ∀ g : Nat → Nat, ab_rnL g (lv 0) = lv (g 0)) {Q0 : ab_RX → List ab_E → Prop} (e : ab_fin G T d M 0 (lv 0) [] hr Q0) {Q : ab_RX → List ab_E → Prop}
    (go : ∀ r0 hr' fR' h', Q0 r0 hr' → Two h' hc hr' o fC fR' → Q (ab_rnR fR' r0) h') : ab_fin G T d M 0 (lv 102) [] h Q := by
  obtain ⟨E1, E2, dj, ⟨n1, n2⟩, ho, ⟨c0, c1⟩, ⟨r0, r1⟩, hl, hz⟩ := W
  obtain ⟨r, h1, f', h', q, ev, s1, s2, s3, s4, s5, s6, s7⟩ := em_run hG E2 r0 hlv e
  rw [r1] at ev
  have h3 := (List.getElem?_eq_some_iff.mp ho).1
  refine ⟨_, h', ev, go r h1 f' h' q ⟨E1.keep (fun k hk => s4 _ (E1.lt hk) (fun j hj => (dj k j hk hj).symm)), s1, fun j k hj hk => ?_, ⟨n1, fun j hj => ?_⟩, (s4 _ h3 n2).trans ho, ⟨c0, c1⟩, ⟨by omega, by rw [s2 0 r0]; exact r1⟩, by omega, by omega⟩⟩
  · by_cases a : k < hr.length
    · rw [s2 k a]
      exact dj j k hj a
    · have b1 := s3 k (by omega)
      have b2 := E1.lt hj
      omega
  · by_cases a : j < hr.length
    · rw [s2 j a]
      exact n2 j a
    · have b1 := s3 j (by omega)
      omega
theorem Two.out (W : Two h hc hr o fC fR) (o' : Int64) : Two (h.set 3467 (.inr (.inl (1, .inr (.inl [o']))))) hc hr o' fC fR := by
  obtain ⟨E1, E2, dj, ⟨n1, n2⟩, ho, c, r, hl, hz⟩ := W
  refine ⟨E1.keep (fun k hk => List.getElem?_set_ne (fun z => n1 k hk z.symm)), E2.keep (fun k hk => List.getElem?_set_ne (fun z => n2 k hk z.symm)), dj, ⟨n1, n2⟩, List.getElem?_set_self (List.getElem?_eq_some_iff.mp ho).1, c, r, by rw [List.length_set]; exact hl, ?_⟩
  exact (ab_z_set (x := .inr (.inl (1, .inr (.inl [o'])))) ho rfl).trans hz
theorem Two.c0 (W : Two h hc hr o fC fR) {ci : Nat} {fs : List Value} (q : hc[0]? = some (.inr (.inr (ci, fs)))) : h[0]? = some (.inr (.inr (ci, fs.map (ab_rn fC)))) := by
  have e := W.1.1 0 _ q
  rw [W.2.2.2.2.2.1.2] at e
  exact e
theorem Two.r0 (W : Two h hc hr o fC fR) {ci : Nat} {fs : List Value} (q : hr[0]? = some (.inr (.inr (ci, fs)))) : h[102]? = some (.inr (.inr (ci, fs.map (ab_rn fR)))) := by
  have e := W.2.1.1 0 _ q
  rw [W.2.2.2.2.2.2.1.2] at e
  exact e
theorem lg_c0 (x : Int64) : lg_cmp x x = 0 := by
  unfold lg_cmp
  simp
theorem ix_v {i j L : Nat} (hj : 6 * i + j < L) (hL : L ≤ 3072) {y : Int32} (hy : y.toInt = j) : ¬ (Int32.ofNat (6 * i) + y < 0 ∨ L ≤ (Int32.ofNat (6 * i) + y).toNatClampNeg) ∧ (Int32.ofNat (6 * i) + y).toNatClampNeg = 6 * i + j := by
  have e1 : (Int32.ofNat (6 * i)).toInt = ((6 * i : Nat) : Int) := Int32.toInt_ofNat_of_lt (by omega)
  have e2 : (Int32.ofNat (6 * i) + y).toInt = ((6 * i + j : Nat) : Int) := by
    rw [Int32.toInt_add, e1, hy]
    have : (((6 * i : Nat) : Int) + (j : Int)).bmod (2 ^ 32) = ((6 * i : Nat) : Int) + (j : Int) := Int.bmod_eq_of_le (by omega) (by omega)
    rw [this]
    omega
  have e3 : (Int32.ofNat (6 * i) + y).toNatClampNeg = 6 * i + j := by
    show (Int32.ofNat (6 * i) + y).toInt.toNat = _
    rw [e2]
    rfl
  refine ⟨?_, e3⟩
  rw [e3, Int32.lt_iff_toInt_lt, e2]
  have : (0 : Int32).toInt = 0 := rfl
  omega
theorem ix_0 {i L : Nat} (hj : 6 * i < L) (hL : L ≤ 3072) : ¬ (Int32.ofNat (6 * i) < 0 ∨ L ≤ (Int32.ofNat (6 * i)).toNatClampNeg) ∧ (Int32.ofNat (6 * i)).toNatClampNeg = 6 * i := by
  have e1 : (Int32.ofNat (6 * i)).toInt = ((6 * i : Nat) : Int) := Int32.toInt_ofNat_of_lt (by omega)
  have e3 : (Int32.ofNat (6 * i)).toNatClampNeg = 6 * i := by
    show (Int32.ofNat (6 * i)).toInt.toNat = _
    rw [e1]
    rfl
  refine ⟨?_, e3⟩
  rw [e3, Int32.lt_iff_toInt_lt, e1]
  have : (0 : Int32).toInt = 0 := rfl
  omega
def anV : Nat ⊕ Int32 → Int32
  | .inl _ => 0
  | .inr v => v
def anT {α : Type} : Nat ⊕ α → Int32
  | .inl th => Int32.ofNat th
  | .inr _ => 0
/-- what the landed code answers, and what it leaves -/
def AnC (e1 e2 : String) (PC : List ab_E → Prop) (r : Nat ⊕ Int32) (r0 : ab_RX) (h : List ab_E) : Prop := PC h ∧ match r with
  | .inl th => ∃ x, r0 = .inr (if th = 1 then e1 else e2, x)
  | .inr v => r0 = .inl (some (.int v))
def AnCL (e1 : String) (PC : List ab_E → Prop) (r : Nat ⊕ Int64) (r0 : ab_RX) (h : List ab_E) : Prop := PC h ∧ match r with
  | .inl _ => ∃ x, r0 = .inr (e1, x)
  | .inr v => r0 = .inl (some (.long v))
def thrR (v : Int32) (h : List ab_E) : Prop := ∃ fs, h[0]? = some (.inr (.inr (24, fs))) ∧ fs[110]? = some (.int v)
def AnR (PR : List ab_E → Prop) (r : Nat ⊕ Int32) (r0 : ab_RX) (h : List ab_E) : Prop := PR h ∧ r0 = .inl (some (.int (anV r))) ∧ thrR (anT r) h
def AnRL (PR : List ab_E → Prop) (r : Nat ⊕ Int64) (r0 : ab_RX) (h : List ab_E) : Prop := PR h ∧ r0 = .inl (some (.long (match r with | .inl _ => 0 | .inr v => v))) ∧ thrR (anT r) h
def is13 (h : List ab_E) : Prop := ∃ fs, h[0]? = some (.inr (.inr (13, fs)))
def is24 (h : List ab_E) : Prop := ∃ fs, h[0]? = some (.inr (.inr (24, fs)))
theorem thrR.at (W : Two h hc hr o fC fR) {v : Int32} (t : thrR v hr) : ∃ fs, h[102]? = some (.inr (.inr (24, fs))) ∧ fs[110]? = some (.int v) := by
  obtain ⟨fs, e1, e2⟩ := t
  exact ⟨_, W.r0 e1, by rw [List.getElem?_map, e2]; rfl⟩
end TWO

/-! the tables hold no cells; constructors of the reference's small objects, anywhere -/
theorem hb_pC (f : Nat → Nat) : ∀ o ix q, hb_C o ix = some q → q.2.map (ab_rn f) = q.2 := by
  intro o ix q h
  unfold hb_C at h
  split at h
  · unfold hb_C0 at h
    split at h <;> first | (cases h; rfl) | (cases h; done)
  · unfold hb_C1 at h
    split at h <;> first | (cases h; rfl) | (cases h; done)
  · unfold hb_C2 at h
    split at h <;> first | (cases h; rfl) | (cases h; done)
  · unfold hb_C3 at h
    split at h <;> first | (cases h; rfl) | (cases h; done)
  · unfold hb_C4 at h
    split at h <;> first | (cases h; rfl) | (cases h; done)
  · unfold hb_C5 at h
    split at h <;> first | (cases h; rfl) | (cases h; done)
  · unfold hb_C6 at h
    split at h <;> first | (cases h; rfl) | (cases h; done)
  · unfold hb_C7 at h
    split at h <;> first | (cases h; rfl) | (cases h; done)
  · unfold hb_C8 at h
    split at h <;> first | (cases h; rfl) | (cases h; done)
  · unfold hb_C9 at h
    split at h <;> first | (cases h; rfl) | (cases h; done)
  · unfold hb_C10 at h
    split at h <;> first | (cases h; rfl) | (cases h; done)
  · unfold hb_C11 at h
    split at h <;> first | (cases h; rfl) | (cases h; done)
  · unfold hb_C12 at h
    split at h <;> first | (cases h; rfl) | (cases h; done)
  · unfold hb_C13 at h
    split at h <;> first | (cases h; rfl) | (cases h; done)
  · unfold hb_C14 at h
    split at h <;> first | (cases h; rfl) | (cases h; done)
  · unfold hb_C15 at h
    split at h <;> first | (cases h; rfl) | (cases h; done)
  · unfold hb_C16 at h
    split at h <;> first | (cases h; rfl) | (cases h; done)
  · unfold hb_C17 at h
    split at h <;> first | (cases h; rfl) | (cases h; done)
  · unfold hb_C18 at h
    split at h <;> first | (cases h; rfl) | (cases h; done)
  · unfold hb_C19 at h
    split at h <;> first | (cases h; rfl) | (cases h; done)
  · unfold hb_C20 at h
    split at h <;> first | (cases h; rfl) | (cases h; done)
  · unfold hb_C21 at h
    split at h <;> first | (cases h; rfl) | (cases h; done)
  · unfold hb_C22 at h
    split at h <;> first | (cases h; rfl) | (cases h; done)
  · unfold hb_C23 at h
    split at h <;> first | (cases h; rfl) | (cases h; done)
  · unfold hb_C31 at h
    split at h <;> first | (cases h; rfl) | (cases h; done)
  · unfold hb_C33 at h
    split at h <;> first | (cases h; rfl) | (cases h; done)
  · unfold hb_C35 at h
    split at h <;> first | (cases h; rfl) | (cases h; done)
  · unfold hb_C37 at h
    split at h <;> first | (cases h; rfl) | (cases h; done)
  · unfold hb_C38 at h
    split at h <;> first | (cases h; rfl) | (cases h; done)
  · unfold hb_C39 at h
    split at h <;> first | (cases h; rfl) | (cases h; done)
  · unfold hb_C41 at h
    split at h <;> first | (cases h; rfl) | (cases h; done)
  · unfold hb_C42 at h
    split at h <;> first | (cases h; rfl) | (cases h; done)
  · unfold hb_C43 at h
    split at h <;> first | (cases h; rfl) | (cases h; done)
  · unfold hb_C44 at h
    split at h <;> first | (cases h; rfl) | (cases h; done)
  · unfold hb_C47 at h
    split at h <;> first | (cases h; rfl) | (cases h; done)
  · unfold hb_C50 at h
    split at h <;> first | (cases h; rfl) | (cases h; done)
  · unfold hb_C51 at h
    split at h <;> first | (cases h; rfl) | (cases h; done)
  · unfold hb_C60 at h
    split at h <;> first | (cases h; rfl) | (cases h; done)
  · unfold hb_C61 at h
    split at h <;> first | (cases h; rfl) | (cases h; done)
  · unfold hb_C62 at h
    split at h <;> first | (cases h; rfl) | (cases h; done)
  · unfold hb_C63 at h
    split at h <;> first | (cases h; rfl) | (cases h; done)
  · unfold hb_C64 at h
    split at h <;> first | (cases h; rfl) | (cases h; done)
  · unfold hb_C65 at h
    split at h <;> first | (cases h; rfl) | (cases h; done)
  · unfold hb_C66 at h
    split at h <;> first | (cases h; rfl) | (cases h; done)
  · unfold hb_C67 at h
    split at h <;> first | (cases h; rfl) | (cases h; done)
  · unfold hb_C68 at h
    split at h <;> first | (cases h; rfl) | (cases h; done)
  · unfold hb_C52 at h
    split at h <;> first | (cases h; rfl) | (cases h; done)
  · cases h
theorem hb_pure {z4 z5 z6 : Value} {L : Nat} {xs : Nat → Int32} (h4 : z4 = .null ∨ z4 = .retAddr 4) (h5 : z5 = .null ∨ z5 = .retAddr 5) (h6 : z6 = .null ∨ z6 = .retAddr 6) : ab_pure (hb_Gz (some z4, some z5, some z6) (some (0, L, fun i => .int (xs i)))) := by
  have n4 : ∀ f, ab_rn f z4 = z4 := fun f => by rcases h4 with rfl | rfl <;> rfl
  have n5 : ∀ f, ab_rn f z5 = z5 := fun f => by rcases h5 with rfl | rfl <;> rfl
  have n6 : ∀ f, ab_rn f z6 = z6 := fun f => by rcases h6 with rfl | rfl <;> rfl
  intro f
  refine ⟨hb_pC f, fun o ix v h => ?_, fun j fid v h => ?_, fun j q h => ?_⟩
  · have h : hb_Xs (some z4, some z5, some z6) o ix = some v := h
    unfold hb_Xs at h
    split at h <;> first | (cases h; rfl) | (cases h; exact n4 f) | (cases h; exact n5 f) | (cases h; exact n6 f) | (cases h; done)
  · have h : hb_Xo j fid = some v := h
    unfold hb_Xo at h
    split at h
    · split at h <;> first | (cases h; rfl) | (cases h; done)
    · cases h
  · have h : hb_Xa (some (0, L, fun i => .int (xs i))) j = some q := h
    unfold hb_Xa at h
    split at h <;> first | (cases h; intro i; rfl) | (cases h; done)
def ab_eqX (r : Option (ab_RX × List ab_E)) (v : Option Value) (h : List ab_E) : Bool := match r with
  | some (.inl v', h') => decide (v' = v) && ab_eqH h' h
  | _ => false
theorem ab_eqX_ok {r : Option (ab_RX × List ab_E)} {v : Option Value} {h : List ab_E} (hc : ab_eqX r v h = true) : r = some (.inl v, h) := by
  unfold ab_eqX at hc
  split at hc
  · rw [Bool.and_eq_true, decide_eq_true_eq] at hc
    rw [hc.1, ab_eqH_ok hc.2]
  · cases hc
def ab_eqO (r : Option ab_E) (e : ab_E) : Bool := match r with
  | some x => ab_eqE x e
  | none => false
theorem ab_eqO_ok {r : Option ab_E} {e : ab_E} (hc : ab_eqO r e = true) : r = some e := by
  unfold ab_eqO at hc
  split at hc
  · rw [ab_eqE_ok hc]
  · cases hc
theorem hb_xmono {a4 a5 a6 : Option Value} {z4 z5 z6 : Value} (h4 : a4 = none ∨ a4 = some z4) (h5 : a5 = none ∨ a5 = some z5) (h6 : a6 = none ∨ a6 = some z6) {o ix : Nat} {v : Value} (h : hb_Xs (a4, a5, a6) o ix = some v) : hb_Xs (some z4, some z5, some z6) o ix = some v := by
  unfold hb_Xs at h ⊢
  split at h <;> first | exact h | (rcases h4 with rfl | rfl <;> first | (cases h; done) | exact h) | (rcases h5 with rfl | rfl <;> first | (cases h; done) | exact h) | (rcases h6 with rfl | rfl <;> first | (cases h; done) | exact h)
theorem hb_amono {x : Nat × Nat × (Nat → Value)} : ∀ j q, hb_Xa none j = some q → hb_Xa (some x) j = some q := by
  intro j q h
  unfold hb_Xa at h ⊢
  split at h <;> first | exact h | (cases h; done)
def hm_Name0 : ab_E := .inr (.inr (20, [.null, .int 0]))
def hm_Name (b : Nat) : List ab_E := [.inr (.inr (20, [.ref (b + 1), .int 0])), .inr (.inl (2, .inl (List.replicate 16 0)))]
theorem hm_Name_0 : ab_ev (hb_Gz (none, none, none) none) hb_GT 12 (mX19_init, []) 0 (lv_args 0 [.ref 0]) [] [hm_Name0] (.inl none) (hm_Name 0) := ⟨200, ab_eqX_ok (by decide +kernel)⟩
theorem hm_Name_c {z4 z5 z6 : Value} {L : Nat} {xs : Nat → Int32} (h4 : z4 = .null ∨ z4 = .retAddr 4) (h5 : z5 = .null ∨ z5 = .retAddr 5) (h6 : z6 = .null ∨ z6 = .retAddr 6) {d : Nat} (hd : 12 ≤ d) (P : List ab_E) {b : Nat} (hb : P.length = b) : ab_ev (hb_Gz (some z4, some z5, some z6) (some (0, L, fun i => .int (xs i)))) hb_GT d (mX19_init, []) 0 (lv_args 0 [.ref b]) [] (P ++ [hm_Name0]) (.inl none) (P ++ hm_Name b) := by
  subst hb
  have e1 := ab_ev.ext (s' := hb_Xs (some z4, some z5, some z6)) (a' := hb_Xa (some (0, L, fun i => .int (xs i)))) (fun o ix v h => hb_xmono (Or.inl rfl) (Or.inl rfl) (Or.inl rfl) h) hb_amono (hm_Name_0)
  exact (e1.up hd).behind (hb_pure h4 h5 h6) P
def hm_Kind0 : ab_E := .inr (.inr (18, [.null, .int 0, .null, .int 0, .null, .null]))
def hm_Kind (b : Nat) : List ab_E := [.inr (.inr (18, [.ref (b + 1), .int 0, .ref (b + 3), .int 0, .ref (b + 4), .ref (b + 8)])), .inr (.inr (20, [.ref (b + 2), .int 0])), .inr (.inl (2, .inl (List.replicate 16 0))), .inr (.inl (0, .inl (List.replicate 24 0))), .inr (.inl (8, .inr (.inr [some (b + 5), some (b + 6), some (b + 7)]))), .inr (.inl (0, .inl (List.replicate 24 0))), .inr (.inl (0, .inl (List.replicate 24 0))), .inr (.inl (0, .inl (List.replicate 24 0))), .inr (.inl (0, .inl (List.replicate 3 0)))]
theorem hm_Kind_0 : ab_ev (hb_Gz (none, none, none) none) hb_GT 12 (mX17_init, []) 0 (lv_args 0 [.ref 0]) [] [hm_Kind0] (.inl none) (hm_Kind 0) := ⟨200, ab_eqX_ok (by decide +kernel)⟩
theorem hm_Kind_c {z4 z5 z6 : Value} {L : Nat} {xs : Nat → Int32} (h4 : z4 = .null ∨ z4 = .retAddr 4) (h5 : z5 = .null ∨ z5 = .retAddr 5) (h6 : z6 = .null ∨ z6 = .retAddr 6) {d : Nat} (hd : 12 ≤ d) (P : List ab_E) {b : Nat} (hb : P.length = b) : ab_ev (hb_Gz (some z4, some z5, some z6) (some (0, L, fun i => .int (xs i)))) hb_GT d (mX17_init, []) 0 (lv_args 0 [.ref b]) [] (P ++ [hm_Kind0]) (.inl none) (P ++ hm_Kind b) := by
  subst hb
  have e1 := ab_ev.ext (s' := hb_Xs (some z4, some z5, some z6)) (a' := hb_Xa (some (0, L, fun i => .int (xs i)))) (fun o ix v h => hb_xmono (Or.inl rfl) (Or.inl rfl) (Or.inl rfl) h) hb_amono (hm_Kind_0)
  exact (e1.up hd).behind (hb_pure h4 h5 h6) P
def hm_Call0 : ab_E := .inr (.inr (14, [.null, .int 0, .int 0, .int 0]))
def hm_Call (b : Nat) : List ab_E := [.inr (.inr (14, [.ref (b + 1), .int 0, .int 0, .int 0])), .inr (.inr (20, [.ref (b + 2), .int 0])), .inr (.inl (2, .inl (List.replicate 16 0)))]
theorem hm_Call_0 : ab_ev (hb_Gz (none, none, none) none) hb_GT 12 (mX13_init, []) 0 (lv_args 0 [.ref 0]) [] [hm_Call0] (.inl none) (hm_Call 0) := ⟨200, ab_eqX_ok (by decide +kernel)⟩
theorem hm_Call_c {z4 z5 z6 : Value} {L : Nat} {xs : Nat → Int32} (h4 : z4 = .null ∨ z4 = .retAddr 4) (h5 : z5 = .null ∨ z5 = .retAddr 5) (h6 : z6 = .null ∨ z6 = .retAddr 6) {d : Nat} (hd : 12 ≤ d) (P : List ab_E) {b : Nat} (hb : P.length = b) : ab_ev (hb_Gz (some z4, some z5, some z6) (some (0, L, fun i => .int (xs i)))) hb_GT d (mX13_init, []) 0 (lv_args 0 [.ref b]) [] (P ++ [hm_Call0]) (.inl none) (P ++ hm_Call b) := by
  subst hb
  have e1 := ab_ev.ext (s' := hb_Xs (some z4, some z5, some z6)) (a' := hb_Xa (some (0, L, fun i => .int (xs i)))) (fun o ix v h => hb_xmono (Or.inl rfl) (Or.inl rfl) (Or.inl rfl) h) hb_amono (hm_Call_0)
  exact (e1.up hd).behind (hb_pure h4 h5 h6) P
def hm_Method0 : ab_E := .inr (.inr (19, [.int 0, .int 0, .int 0, .int 0, .int 0, .null, .null, .null, .null, .null, .int 0]))
def hm_Method (b : Nat) : List ab_E := [.inr (.inr (19, [.int 0, .int 0, .int 0, .int 0, .int 0, .ref (b + 1), .ref (b + 2), .ref (b + 3), .null, .null, .int 0])), .inr (.inl (0, .inl (List.replicate 3 0))), .inr (.inl (0, .inl (List.replicate 3 0))), .inr (.inl (3, .inl (List.replicate 3 0)))]
theorem hm_Method_0 : ab_ev (hb_Gz (none, none, none) none) hb_GT 12 (mX18_init, []) 0 (lv_args 0 [.ref 0]) [] [hm_Method0] (.inl none) (hm_Method 0) := ⟨200, ab_eqX_ok (by decide +kernel)⟩
theorem hm_Method_c {z4 z5 z6 : Value} {L : Nat} {xs : Nat → Int32} (h4 : z4 = .null ∨ z4 = .retAddr 4) (h5 : z5 = .null ∨ z5 = .retAddr 5) (h6 : z6 = .null ∨ z6 = .retAddr 6) {d : Nat} (hd : 12 ≤ d) (P : List ab_E) {b : Nat} (hb : P.length = b) : ab_ev (hb_Gz (some z4, some z5, some z6) (some (0, L, fun i => .int (xs i)))) hb_GT d (mX18_init, []) 0 (lv_args 0 [.ref b]) [] (P ++ [hm_Method0]) (.inl none) (P ++ hm_Method b) := by
  subst hb
  have e1 := ab_ev.ext (s' := hb_Xs (some z4, some z5, some z6)) (a' := hb_Xa (some (0, L, fun i => .int (xs i)))) (fun o ix v h => hb_xmono (Or.inl rfl) (Or.inl rfl) (Or.inl rfl) h) hb_amono (hm_Method_0)
  exact (e1.up hd).behind (hb_pure h4 h5 h6) P
def hm_Nodes0 : ab_E := .inr (.inr (22, [.null, .int 0]))
def hm_Nodes (b : Nat) : List ab_E := [.inr (.inr (22, [.ref (b + 1), .int 0])), .inr (.inr (0, [.int 0, .retAddr 7, .int 0]))]
theorem hm_Nodes_0 : ab_ev (hb_Gz (none, none, none) none) hb_GT 12 (mX21_init, []) 0 (lv_args 0 [.ref 0]) [] [hm_Nodes0] (.inl none) (hm_Nodes 0) := ⟨200, ab_eqX_ok (by decide +kernel)⟩
theorem hm_Nodes_c {z4 z5 z6 : Value} {L : Nat} {xs : Nat → Int32} (h4 : z4 = .null ∨ z4 = .retAddr 4) (h5 : z5 = .null ∨ z5 = .retAddr 5) (h6 : z6 = .null ∨ z6 = .retAddr 6) {d : Nat} (hd : 12 ≤ d) (P : List ab_E) {b : Nat} (hb : P.length = b) : ab_ev (hb_Gz (some z4, some z5, some z6) (some (0, L, fun i => .int (xs i)))) hb_GT d (mX21_init, []) 0 (lv_args 0 [.ref b]) [] (P ++ [hm_Nodes0]) (.inl none) (P ++ hm_Nodes b) := by
  subst hb
  have e1 := ab_ev.ext (s' := hb_Xs (some z4, some z5, some z6)) (a' := hb_Xa (some (0, L, fun i => .int (xs i)))) (fun o ix v h => hb_xmono (Or.inl rfl) (Or.inl rfl) (Or.inl rfl) h) hb_amono (hm_Nodes_0)
  exact (e1.up hd).behind (hb_pure h4 h5 h6) P
def hm_Choice0 : ab_E := .inr (.inr (15, [.int 0, .null, .null, .null]))
def hm_Choice (b : Nat) : List ab_E := [.inr (.inr (15, [.int 0, .ref (b + 1), .ref (b + 6), .ref (b + 7)])), .inr (.inl (8, .inr (.inr [some (b + 2), some (b + 3), some (b + 4), some (b + 5)]))), .inr (.inl (0, .inl (List.replicate 120 0))), .inr (.inl (0, .inl (List.replicate 120 0))), .inr (.inl (0, .inl (List.replicate 120 0))), .inr (.inl (0, .inl (List.replicate 120 0))), .inr (.inl (0, .inl (List.replicate 4 0))), .inr (.inl (3, .inl (List.replicate 4 0)))]
theorem hm_Choice_0 : ab_ev (hb_Gz (none, none, none) none) hb_GT 12 (mX14_init, []) 0 (lv_args 0 [.ref 0]) [] [hm_Choice0] (.inl none) (hm_Choice 0) := ⟨200, ab_eqX_ok (by decide +kernel)⟩
theorem hm_Choice_c {z4 z5 z6 : Value} {L : Nat} {xs : Nat → Int32} (h4 : z4 = .null ∨ z4 = .retAddr 4) (h5 : z5 = .null ∨ z5 = .retAddr 5) (h6 : z6 = .null ∨ z6 = .retAddr 6) {d : Nat} (hd : 12 ≤ d) (P : List ab_E) {b : Nat} (hb : P.length = b) : ab_ev (hb_Gz (some z4, some z5, some z6) (some (0, L, fun i => .int (xs i)))) hb_GT d (mX14_init, []) 0 (lv_args 0 [.ref b]) [] (P ++ [hm_Choice0]) (.inl none) (P ++ hm_Choice b) := by
  subst hb
  have e1 := ab_ev.ext (s' := hb_Xs (some z4, some z5, some z6)) (a' := hb_Xa (some (0, L, fun i => .int (xs i)))) (fun o ix v h => hb_xmono (Or.inl rfl) (Or.inl rfl) (Or.inl rfl) h) hb_amono (hm_Choice_0)
  exact (e1.up hd).behind (hb_pure h4 h5 h6) P
def hm_Failed0 : ab_E := .inr (.inr (17, [.null, .null, .null, .null, .null, .int 0]))
def hm_Failed (b : Nat) : List ab_E := [.inr (.inr (17, [.null, .null, .null, .null, .null, .int 0]))]
theorem hm_Failed_0 {z5 z6 : Value} (h5 : z5 = .null ∨ z5 = .retAddr 5) (h6 : z6 = .null ∨ z6 = .retAddr 6) : ab_ev (hb_Gz (none, some z5, some z6) none) hb_GT 12 (mX16_init, []) 0 (lv_args 0 [.ref 0]) [] [hm_Failed0] (.inl none) (hm_Failed 0) := by
  rcases h5 with rfl | rfl <;> rcases h6 with rfl | rfl <;> exact ⟨200, ab_eqX_ok (by decide +kernel)⟩
theorem hm_Failed_c {z4 z5 z6 : Value} {L : Nat} {xs : Nat → Int32} (h4 : z4 = .null ∨ z4 = .retAddr 4) (h5 : z5 = .null ∨ z5 = .retAddr 5) (h6 : z6 = .null ∨ z6 = .retAddr 6) {d : Nat} (hd : 12 ≤ d) (P : List ab_E) {b : Nat} (hb : P.length = b) : ab_ev (hb_Gz (some z4, some z5, some z6) (some (0, L, fun i => .int (xs i)))) hb_GT d (mX16_init, []) 0 (lv_args 0 [.ref b]) [] (P ++ [hm_Failed0]) (.inl none) (P ++ hm_Failed b) := by
  subst hb
  have e1 := ab_ev.ext (s' := hb_Xs (some z4, some z5, some z6)) (a' := hb_Xa (some (0, L, fun i => .int (xs i)))) (fun o ix v h => hb_xmono (Or.inl rfl) (Or.inr rfl) (Or.inr rfl) h) hb_amono (hm_Failed_0 h5 h6)
  exact (e1.up hd).behind (hb_pure h4 h5 h6) P
def hm_Ended0 : ab_E := .inr (.inr (16, [.null, .null, .null, .null, .null, .int 0]))
def hm_Ended (b : Nat) : List ab_E := [.inr (.inr (16, [.null, .null, .null, .null, .null, .int 0]))]
theorem hm_Ended_0 {z5 z6 : Value} (h5 : z5 = .null ∨ z5 = .retAddr 5) (h6 : z6 = .null ∨ z6 = .retAddr 6) : ab_ev (hb_Gz (none, some z5, some z6) none) hb_GT 12 (mX15_init, []) 0 (lv_args 0 [.ref 0]) [] [hm_Ended0] (.inl none) (hm_Ended 0) := by
  rcases h5 with rfl | rfl <;> rcases h6 with rfl | rfl <;> exact ⟨200, ab_eqX_ok (by decide +kernel)⟩
theorem hm_Ended_c {z4 z5 z6 : Value} {L : Nat} {xs : Nat → Int32} (h4 : z4 = .null ∨ z4 = .retAddr 4) (h5 : z5 = .null ∨ z5 = .retAddr 5) (h6 : z6 = .null ∨ z6 = .retAddr 6) {d : Nat} (hd : 12 ≤ d) (P : List ab_E) {b : Nat} (hb : P.length = b) : ab_ev (hb_Gz (some z4, some z5, some z6) (some (0, L, fun i => .int (xs i)))) hb_GT d (mX15_init, []) 0 (lv_args 0 [.ref b]) [] (P ++ [hm_Ended0]) (.inl none) (P ++ hm_Ended b) := by
  subst hb
  have e1 := ab_ev.ext (s' := hb_Xs (some z4, some z5, some z6)) (a' := hb_Xa (some (0, L, fun i => .int (xs i)))) (fun o ix v h => hb_xmono (Or.inl rfl) (Or.inr rfl) (Or.inr rfl) h) hb_amono (hm_Ended_0 h5 h6)
  exact (e1.up hd).behind (hb_pure h4 h5 h6) P

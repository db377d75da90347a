/-! STRINGS THAT WERE THERE BEFORE: what their methods answer -/
/-- what is known of the things that were there before -/
def ZK (Z : zT) : Prop := ∃ (z4 z5 z6 : Value) (L : Nat) (xs : Nat → Int32), Z = ((some z4, some z5, some z6), (0, L, fun i => .int (xs i))) ∧ (z4 = .null ∨ z4 = .retAddr 4) ∧ (z5 = .null ∨ z5 = .retAddr 5) ∧ (z6 = .null ∨ z6 = .retAddr 6)
theorem st_lift {Φ : Fix} {Z : zT} (hZ : ZK Z) {M : ab_MI} {lv : ab_L} {v : Option Value} {d : Nat} (hd : 12 ≤ d) (h : ∀ z, (z = Value.null ∨ z = .retAddr 4) → ab_ev (hb_Gz (some z, none, none) none) hb_GT 12 (M, []) 0 lv [] [] (.inl v) []) (hl : ∀ f : Nat → Nat, ab_rnL f lv = lv) (hv : ∀ f : Nat → Nat, ab_rnR f (.inl v) = .inl v) {σ : Sg} {K : kS} (F : FX Φ σ.sh σ.r) (k : K (.inl v) σ) : ab_fin (hb_Gz Z.1 (some Z.2)) hb_GT d (M, []) 0 lv [] (conc σ) (lf Φ K) := by
  obtain ⟨z4, z5, z6, L, xs, rfl, h4, h5, h6⟩ := hZ
  have e1 := ab_ev.ext (s' := hb_Xs (some z4, some z5, some z6)) (a' := hb_Xa (some (0, L, fun i => .int (xs i)))) (fun o ix v h => hb_xmono (Or.inr rfl) (Or.inl rfl) (Or.inl rfl) h) hb_amono (h z4 h4)
  have e2 := (e1.up hd).behind (hb_pure h4 h5 h6) (conc σ)
  rw [hl, hv] at e2
  simp only [List.map_nil, List.append_nil] at e2
  exact ⟨_, _, e2, σ, rfl, F, k⟩
/-- a constant's letters -/
def stA (j : Nat) : Nat × (Nat → Value) := match hb_Xa none (j + 1) with
  | some q => (q.2.1, q.2.2)
  | none => (0, fun _ => .null)
def stI (j i : Nat) : Int32 := match (stA j).2 i with
  | .int x => x
  | _ => 0
def ck_ch (z : Value) (j : Nat) : Bool := (List.range (stA j).1).all fun i => ab_eqX (ab_rx (hb_Gz (some z, none, none) none) hb_GT 300 12 (mJ0_charAt_5068e, []) 0 [(0, .retAddr j), (1, .int (Int32.ofNat i))] [] []) (some (.int (stI j i))) []
def ck_ln (z : Value) (j : Nat) : Bool := ab_eqX (ab_rx (hb_Gz (some z, none, none) none) hb_GT 300 12 (mJ0_length_8abf5, []) 0 [(0, .retAddr j)] [] []) (some (.int (Int32.ofNat (stA j).1))) []
def ck_s (j : Nat) : Bool := ck_ch .null j && ck_ch (.retAddr 4) j && (ck_ln .null j && ck_ln (.retAddr 4) j)
def stJ : List Nat := [106, 112, 114, 116, 118, 120, 122, 124, 126, 128, 130, 132, 134, 136, 138, 140, 142, 144, 146, 148, 150, 152, 154, 156, 158, 160, 162, 164, 166, 168, 170, 172, 174, 176, 178, 180, 182]
theorem st_ck_106 : ck_s 106 = true := by decide +kernel
theorem st_ck_112 : ck_s 112 = true := by decide +kernel
theorem st_ck_114 : ck_s 114 = true := by decide +kernel
theorem st_ck_116 : ck_s 116 = true := by decide +kernel
theorem st_ck_118 : ck_s 118 = true := by decide +kernel
theorem st_ck_120 : ck_s 120 = true := by decide +kernel
theorem st_ck_122 : ck_s 122 = true := by decide +kernel
theorem st_ck_124 : ck_s 124 = true := by decide +kernel
theorem st_ck_126 : ck_s 126 = true := by decide +kernel
theorem st_ck_128 : ck_s 128 = true := by decide +kernel
theorem st_ck_130 : ck_s 130 = true := by decide +kernel
theorem st_ck_132 : ck_s 132 = true := by decide +kernel
theorem st_ck_134 : ck_s 134 = true := by decide +kernel
theorem st_ck_136 : ck_s 136 = true := by decide +kernel
theorem st_ck_138 : ck_s 138 = true := by decide +kernel
theorem st_ck_140 : ck_s 140 = true := by decide +kernel
theorem st_ck_142 : ck_s 142 = true := by decide +kernel
theorem st_ck_144 : ck_s 144 = true := by decide +kernel
theorem st_ck_146 : ck_s 146 = true := by decide +kernel
theorem st_ck_148 : ck_s 148 = true := by decide +kernel
theorem st_ck_150 : ck_s 150 = true := by decide +kernel
theorem st_ck_152 : ck_s 152 = true := by decide +kernel
theorem st_ck_154 : ck_s 154 = true := by decide +kernel
theorem st_ck_156 : ck_s 156 = true := by decide +kernel
theorem st_ck_158 : ck_s 158 = true := by decide +kernel
theorem st_ck_160 : ck_s 160 = true := by decide +kernel
theorem st_ck_162 : ck_s 162 = true := by decide +kernel
theorem st_ck_164 : ck_s 164 = true := by decide +kernel
theorem st_ck_166 : ck_s 166 = true := by decide +kernel
theorem st_ck_168 : ck_s 168 = true := by decide +kernel
theorem st_ck_170 : ck_s 170 = true := by decide +kernel
theorem st_ck_172 : ck_s 172 = true := by decide +kernel
theorem st_ck_174 : ck_s 174 = true := by decide +kernel
theorem st_ck_176 : ck_s 176 = true := by decide +kernel
theorem st_ck_178 : ck_s 178 = true := by decide +kernel
theorem st_ck_180 : ck_s 180 = true := by decide +kernel
theorem st_ck_182 : ck_s 182 = true := by decide +kernel
theorem st_ck : ∀ j ∈ stJ, ck_s j = true := by
  intro j hj
  unfold stJ at hj
  simp only [List.mem_cons, List.not_mem_nil, or_false] at hj
  rcases hj with rfl | rfl | rfl | rfl | rfl | rfl | rfl | rfl | rfl | rfl | rfl | rfl | rfl | rfl | rfl | rfl | rfl | rfl | rfl | rfl | rfl | rfl | rfl | rfl | rfl | rfl | rfl | rfl | rfl | rfl | rfl | rfl | rfl | rfl | rfl | rfl | rfl
  · exact st_ck_106
  · exact st_ck_112
  · exact st_ck_114
  · exact st_ck_116
  · exact st_ck_118
  · exact st_ck_120
  · exact st_ck_122
  · exact st_ck_124
  · exact st_ck_126
  · exact st_ck_128
  · exact st_ck_130
  · exact st_ck_132
  · exact st_ck_134
  · exact st_ck_136
  · exact st_ck_138
  · exact st_ck_140
  · exact st_ck_142
  · exact st_ck_144
  · exact st_ck_146
  · exact st_ck_148
  · exact st_ck_150
  · exact st_ck_152
  · exact st_ck_154
  · exact st_ck_156
  · exact st_ck_158
  · exact st_ck_160
  · exact st_ck_162
  · exact st_ck_164
  · exact st_ck_166
  · exact st_ck_168
  · exact st_ck_170
  · exact st_ck_172
  · exact st_ck_174
  · exact st_ck_176
  · exact st_ck_178
  · exact st_ck_180
  · exact st_ck_182
theorem st_ch {Φ : Fix} {Z : zT} (hZ : ZK Z) {j i d : Nat} (hj : j ∈ stJ) (hi : i < (stA j).1) (hd : 12 ≤ d) {σ : Sg} {K : kS} (F : FX Φ σ.sh σ.r) (k : K (.inl (some (.int (stI j i)))) σ) : ab_fin (hb_Gz Z.1 (some Z.2)) hb_GT d (mJ0_charAt_5068e, []) 0 [(0, rv (Rf.old j)), (1, .int (Int32.ofNat i))] [] (conc σ) (lf Φ K) := by
  have h := st_ck j hj
  unfold ck_s at h
  simp only [Bool.and_eq_true] at h
  refine st_lift hZ hd (fun z hz => ?_) (fun f => rfl) (fun f => rfl) F k
  rcases hz with rfl | rfl
  · exact ⟨300, ab_eqX_ok (List.all_eq_true.mp h.1.1 i (List.mem_range.mpr hi))⟩
  · exact ⟨300, ab_eqX_ok (List.all_eq_true.mp h.1.2 i (List.mem_range.mpr hi))⟩
theorem st_ln {Φ : Fix} {Z : zT} (hZ : ZK Z) {j d : Nat} (hj : j ∈ stJ) (hd : 12 ≤ d) {σ : Sg} {K : kS} (F : FX Φ σ.sh σ.r) (k : K (.inl (some (.int (Int32.ofNat (stA j).1)))) σ) : ab_fin (hb_Gz Z.1 (some Z.2)) hb_GT d (mJ0_length_8abf5, []) 0 [(0, rv (Rf.old j))] [] (conc σ) (lf Φ K) := by
  have h := st_ck j hj
  unfold ck_s at h
  simp only [Bool.and_eq_true] at h
  refine st_lift hZ hd (fun z hz => ?_) (fun f => rfl) (fun f => rfl) F k
  rcases hz with rfl | rfl
  · exact ⟨300, ab_eqX_ok h.2.1⟩
  · exact ⟨300, ab_eqX_ok h.2.2⟩
/-- the place of a letter in a row of signs -/
def stF (j : Nat) (c : Int32) : Int32 := match (List.range (stA j).1).find? (fun i => stI j i == c) with
  | some i => Int32.ofNat i
  | none => -1
def ck_ix (j b : Nat) : Bool := (List.range 32).all fun c => ab_eqX (ab_rx (hb_Gz (none, none, none) none) hb_GT 1000 12 (mJ0_indexOf_0f7a4, []) 0 [(0, .retAddr j), (1, .int (Int32.ofNat (b + c)))] [] []) (some (.int (stF j (Int32.ofNat (b + c))))) []
theorem st_x_108_0 : ck_ix 108 0 = true := by decide +kernel
theorem st_x_108_32 : ck_ix 108 32 = true := by decide +kernel
theorem st_x_108_64 : ck_ix 108 64 = true := by decide +kernel
theorem st_x_108_96 : ck_ix 108 96 = true := by decide +kernel
theorem st_x_108_128 : ck_ix 108 128 = true := by decide +kernel
theorem st_x_108_160 : ck_ix 108 160 = true := by decide +kernel
theorem st_x_108_192 : ck_ix 108 192 = true := by decide +kernel
theorem st_x_108_224 : ck_ix 108 224 = true := by decide +kernel
theorem st_x_184_32 : ck_ix 184 32 = true := by decide +kernel
theorem st_x_184_64 : ck_ix 184 64 = true := by decide +kernel
theorem st_x_184_96 : ck_ix 184 96 = true := by decide +kernel
theorem st_xA {b : Nat} (hb : b < 8) : ck_ix 108 (32 * b) = true := by
  match b, hb with
  | 0, _ => exact st_x_108_0
  | 1, _ => exact st_x_108_32
  | 2, _ => exact st_x_108_64
  | 3, _ => exact st_x_108_96
  | 4, _ => exact st_x_108_128
  | 5, _ => exact st_x_108_160
  | 6, _ => exact st_x_108_192
  | 7, _ => exact st_x_108_224
theorem st_xB {b : Nat} (h1 : 1 ≤ b) (hb : b < 4) : ck_ix 184 (32 * b) = true := by
  match b, h1, hb with
  | 1, _, _ => exact st_x_184_32
  | 2, _, _ => exact st_x_184_64
  | 3, _, _ => exact st_x_184_96
theorem st_lift0 {Φ : Fix} {Z : zT} (hZ : ZK Z) {M : ab_MI} {lv : ab_L} {v : Option Value} {d : Nat} (hd : 12 ≤ d) (h : ab_ev (hb_Gz (none, none, none) none) hb_GT 12 (M, []) 0 lv [] [] (.inl v) []) (hl : ∀ f : Nat → Nat, ab_rnL f lv = lv) (hv : ∀ f : Nat → Nat, ab_rnR f (.inl v) = .inl v) {σ : Sg} {K : kS} (F : FX Φ σ.sh σ.r) (k : K (.inl v) σ) : ab_fin (hb_Gz Z.1 (some Z.2)) hb_GT d (M, []) 0 lv [] (conc σ) (lf Φ K) := by
  obtain ⟨z4, z5, z6, L, xs, rfl, h4, h5, h6⟩ := hZ
  have e1 := ab_ev.ext (s' := hb_Xs (some z4, some z5, some z6)) (a' := hb_Xa (some (0, L, fun i => .int (xs i)))) (fun o ix v h => hb_xmono (Or.inl rfl) (Or.inl rfl) (Or.inl rfl) h) hb_amono h
  have e2 := (e1.up hd).behind (hb_pure h4 h5 h6) (conc σ)
  rw [hl, hv] at e2
  simp only [List.map_nil, List.append_nil] at e2
  exact ⟨_, _, e2, σ, rfl, F, k⟩
theorem st_ix {Φ : Fix} {Z : zT} (hZ : ZK Z) {j c d : Nat} (hj : j = 108 ∧ c < 256 ∨ j = 184 ∧ 32 ≤ c ∧ c < 128) (hd : 12 ≤ d) {σ : Sg} {K : kS} (F : FX Φ σ.sh σ.r) (k : K (.inl (some (.int (stF j (Int32.ofNat c))))) σ) : ab_fin (hb_Gz Z.1 (some Z.2)) hb_GT d (mJ0_indexOf_0f7a4, []) 0 [(0, rv (Rf.old j)), (1, .int (Int32.ofNat c))] [] (conc σ) (lf Φ K) := by
  have h : ck_ix j (32 * (c / 32)) = true := by
    rcases hj with ⟨rfl, h⟩ | ⟨rfl, h1, h2⟩
    · exact st_xA (by omega)
    · exact st_xB (by omega) (by omega)
  have h := List.all_eq_true.mp h (c % 32) (List.mem_range.mpr (by omega))
  rw [show 32 * (c / 32) + c % 32 = c by omega] at h
  exact st_lift0 hZ hd ⟨1000, ab_eqX_ok h⟩ (fun f => rfl) (fun f => rfl) F k

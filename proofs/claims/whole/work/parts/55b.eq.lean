/-! equals of words -/
def stE : List Nat := [118, 120, 122, 124, 126, 128, 130, 132, 134, 136, 138, 140, 142, 144, 146, 148, 150, 152, 154, 156, 158, 160, 162, 164, 166, 168, 170, 172, 174, 176, 178, 180, 182]
def ck_eq (i : Nat) : Bool := stE.all fun j => ab_eqX (ab_rx (hb_Gz (none, none, none) none) hb_GT 400 12 (mJ0_equals_9ea2d, []) 0 [(0, .retAddr i), (1, .retAddr j)] [] []) (some (.int (if i = j then 1 else 0))) []
theorem ck_eq_110 : ck_eq 110 = true := by decide +kernel
theorem ck_eq_118 : ck_eq 118 = true := by decide +kernel
theorem ck_eq_120 : ck_eq 120 = true := by decide +kernel
theorem ck_eq_122 : ck_eq 122 = true := by decide +kernel
theorem ck_eq_124 : ck_eq 124 = true := by decide +kernel
theorem ck_eq_126 : ck_eq 126 = true := by decide +kernel
theorem ck_eq_128 : ck_eq 128 = true := by decide +kernel
theorem ck_eq_130 : ck_eq 130 = true := by decide +kernel
theorem ck_eq_132 : ck_eq 132 = true := by decide +kernel
theorem ck_eq_134 : ck_eq 134 = true := by decide +kernel
theorem ck_eq_136 : ck_eq 136 = true := by decide +kernel
theorem ck_eq_138 : ck_eq 138 = true := by decide +kernel
theorem ck_eq_140 : ck_eq 140 = true := by decide +kernel
theorem ck_eq_142 : ck_eq 142 = true := by decide +kernel
theorem ck_eq_144 : ck_eq 144 = true := by decide +kernel
theorem ck_eq_146 : ck_eq 146 = true := by decide +kernel
theorem ck_eq_148 : ck_eq 148 = true := by decide +kernel
theorem ck_eq_150 : ck_eq 150 = true := by decide +kernel
theorem ck_eq_152 : ck_eq 152 = true := by decide +kernel
theorem ck_eq_154 : ck_eq 154 = true := by decide +kernel
theorem ck_eq_156 : ck_eq 156 = true := by decide +kernel
theorem ck_eq_158 : ck_eq 158 = true := by decide +kernel
theorem ck_eq_160 : ck_eq 160 = true := by decide +kernel
theorem ck_eq_162 : ck_eq 162 = true := by decide +kernel
theorem ck_eq_164 : ck_eq 164 = true := by decide +kernel
theorem ck_eq_166 : ck_eq 166 = true := by decide +kernel
theorem ck_eq_168 : ck_eq 168 = true := by decide +kernel
theorem ck_eq_170 : ck_eq 170 = true := by decide +kernel
theorem ck_eq_172 : ck_eq 172 = true := by decide +kernel
theorem ck_eq_174 : ck_eq 174 = true := by decide +kernel
theorem ck_eq_176 : ck_eq 176 = true := by decide +kernel
theorem ck_eq_178 : ck_eq 178 = true := by decide +kernel
theorem ck_eq_180 : ck_eq 180 = true := by decide +kernel
theorem ck_eq_182 : ck_eq 182 = true := by decide +kernel
theorem ck_eq_ok : ∀ i ∈ 110 :: stE, ck_eq i = true := by
  intro i hi
  unfold stE at hi
  simp only [List.mem_cons, List.not_mem_nil, or_false] at hi
  rcases hi with rfl | rfl | rfl | rfl | rfl | rfl | rfl | rfl | rfl | rfl | rfl | rfl | rfl | rfl | rfl | rfl | rfl | rfl | rfl | rfl | rfl | rfl | rfl | rfl | rfl | rfl | rfl | rfl | rfl | rfl | rfl | rfl | rfl | rfl
  · exact ck_eq_110
  · exact ck_eq_118
  · exact ck_eq_120
  · exact ck_eq_122
  · exact ck_eq_124
  · exact ck_eq_126
  · exact ck_eq_128
  · exact ck_eq_130
  · exact ck_eq_132
  · exact ck_eq_134
  · exact ck_eq_136
  · exact ck_eq_138
  · exact ck_eq_140
  · exact ck_eq_142
  · exact ck_eq_144
  · exact ck_eq_146
  · exact ck_eq_148
  · exact ck_eq_150
  · exact ck_eq_152
  · exact ck_eq_154
  · exact ck_eq_156
  · exact ck_eq_158
  · exact ck_eq_160
  · exact ck_eq_162
  · exact ck_eq_164
  · exact ck_eq_166
  · exact ck_eq_168
  · exact ck_eq_170
  · exact ck_eq_172
  · exact ck_eq_174
  · exact ck_eq_176
  · exact ck_eq_178
  · exact ck_eq_180
  · exact ck_eq_182
theorem st_eq {Φ : Fix} {Z : zT} (hZ : ZK Z) {i j d : Nat} (hi : i ∈ 110 :: stE) (hj : j ∈ stE) (hd : 12 ≤ d) {σ : Sg} {K : kS} (F : FX Φ σ.sh σ.r) (k : K (.inl (some (.int (if i = j then 1 else 0)))) σ) : ab_fin (hb_Gz Z.1 (some Z.2)) hb_GT d (mJ0_equals_9ea2d, []) 0 [(0, rv (Rf.old i)), (1, rv (Rf.old j))] [] (conc σ) (lf Φ K) := st_lift0 hZ hd ⟨400, ab_eqX_ok (List.all_eq_true.mp (ck_eq_ok i hi) j hj)⟩ (fun f => rfl) (fun f => rfl) F k

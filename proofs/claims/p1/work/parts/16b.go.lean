/-! walking an abstract run, an instruction a row -/
section GO
variable {G : ab_G} {n d : Nat} {M : ab_MI} {pc : Nat} {lv : ab_L} {h : List ab_E} {r : List Value}
theorem ab_go {i : Instr} {k pc' : Nat} {lv' : ab_L} {st st' : List Value} {h' : List ab_E} (hd : decode (ab_mc M) pc = .ok (i, k)) (hs : ab_step G M i k pc lv st h = some (pc', lv', st', h')) : ab_run G (n + 1) d M pc lv st h = ab_run G n d M pc' lv' st' h' := by
  rw [ab_run, hd]
  simp only [hs]
theorem ab_goRet {i : Instr} {k : Nat} {st : List Value} {v : Option Value} (hd : decode (ab_mc M) pc = .ok (i, k)) (hs : ab_step G M i k pc lv st h = none) (hr : ab_ret (ab_mr M) i k st = some v) : ab_run G (n + 1) d M pc lv st h = some (v, h) := by
  rw [ab_run, hd]
  simp only [hs, hr]
theorem ab_goGet {ix ci k a : Nat} {ty : FieldType} {ok : Bool} {fs : List Value} {v : Value} (hd : decode (ab_mc M) pc = .ok (.getfield ix, 3)) (hF : ab_gF G (ab_mo M) (ab_mi M) ix = some (ci, k, ty, ok)) (ho : h[a]? = some (.inr (.inr (ci, fs)))) (hv : fs[k]? = some v) : ab_run G (n + 1) d M pc lv (.ref a :: r) h = ab_run G n d M (pc + 3) lv (v :: r) h := by
  refine ab_go hd ?_
  have e4 : ab_s4 (ab_gF G (ab_mo M) (ab_mi M)) (ab_gO G) h (.getfield ix) 3 (.ref a :: r) = some (v :: r) := by
    simp only [ab_s4, hF, ab_obj, ho, Option.bind_some, if_pos, hv, Option.map_some]
  simp only [ab_step, ab_s1, ab_s2, ab_s3, e4]
theorem ab_goIald {a : Nat} {l : List Int32} {i : Int32} (hd : decode (ab_mc M) pc = .ok (.iaload, 1)) (ho : h[a]? = some (.inr (.inl (0, .inl l)))) (hi : ¬ (i < 0 ∨ l.length ≤ i.toNatClampNeg)) : ab_run G (n + 1) d M pc lv (.int i :: .ref a :: r) h = ab_run G n d M (pc + 1) lv (.int (l.getD i.toNatClampNeg 0) :: r) h := by
  refine ab_go hd ?_
  have e4 : ab_s4 (ab_gF G (ab_mo M) (ab_mi M)) (ab_gO G) h .iaload 1 (.int i :: .ref a :: r) = some (.int (l.getD i.toNatClampNeg 0) :: r) := by
    simp only [ab_s4, ab_arI, ho, Option.bind_some, if_pos, if_neg hi]
  simp only [ab_step, ab_s1, ab_s2, ab_s3, e4]
theorem ab_goIf {c : Prop} [Decidable c] {i : Instr} {off : Int} {t : Nat} {st : List Value} (hd : decode (ab_mc M) pc = .ok (i, 3)) (ht : ab_t pc off = some t) (hs1 : ab_s1 i 3 st = none) (hs2 : ab_s2 (ab_mL M) i 3 lv st = none) (hs3 : ab_s3 i 3 pc st = (ab_t pc off).bind (fun t => if c then some (t, r) else some (pc + 3, r))) : ab_run G (n + 1) d M pc lv st h = if c then ab_run G n d M t lv r h else ab_run G n d M (pc + 3) lv r h := by
  by_cases hc : c
  · rw [if_pos hc]
    refine ab_go hd ?_
    rw [ht] at hs3
    simp only [Option.bind_some, if_pos hc] at hs3
    simp only [ab_step, hs1, hs2, hs3]
  · rw [if_neg hc]
    refine ab_go hd ?_
    rw [ht] at hs3
    simp only [Option.bind_some, if_neg hc] at hs3
    simp only [ab_step, hs1, hs2, hs3]
end GO
set_option maxRecDepth 20000 in
/-- Kinds.isBelow -/
theorem hb_isBelow (z : Value) (h : List ab_E) (n d K A : Nat) (fs : List Value) (l : List Int32) (a b : Int32) (hK : h[K]? = some (.inr (.inr (3, fs)))) (hA : fs[1]? = some (.ref A)) (hf : h[A]? = some (.inr (.inl (0, .inl l)))) (ha : ¬ (a < 0 ∨ l.length ≤ a.toNatClampNeg)) :
    ab_run (hb_G z) (n + 12) d mX2_isBelow 0 (lv_args 0 [.ref K, .int a, .int b]) [] h = some (some (.int (if (l.getD a.toNatClampNeg 0 >>> (b &&& 31)) &&& 1 = 0 then 0 else 1)), h) := by
  rw [ab_go (i := .aload_n 0) (k := 1) (by decide +kernel) rfl]
  rw [ab_goGet (ix := 15) (by decide +kernel) rfl hK hA]
  rw [ab_go (i := .iload_n 1) (k := 1) (by decide +kernel) rfl]
  rw [ab_goIald (by decide +kernel) hf ha]
  rw [ab_go (i := .iload_n 2) (k := 1) (by decide +kernel) rfl]
  rw [ab_go (i := .ishr) (k := 1) (by decide +kernel) rfl]
  rw [ab_go (i := .iconst 1) (k := 1) (by decide +kernel) rfl]
  rw [ab_go (i := .iand) (k := 1) (by decide +kernel) rfl]
  rw [ab_goIf (c := (l.getD a.toNatClampNeg 0 >>> (b &&& 31)) &&& 1 = 0) (i := .ifCond .eq 7) (off := 7) (t := 17) (by decide +kernel) rfl rfl rfl rfl]
  split
  · rw [ab_go (i := .iconst 0) (k := 1) (by decide +kernel) rfl]
    rw [ab_goRet (i := .ireturn) (k := 1) (by decide +kernel) rfl rfl]
    rfl
  · rw [ab_go (i := .iconst 1) (k := 1) (by decide +kernel) rfl]
    rw [ab_go (i := .goto 4) (k := 3) (by decide +kernel) rfl]
    rw [ab_goRet (i := .ireturn) (k := 1) (by decide +kernel) rfl rfl]
    rfl

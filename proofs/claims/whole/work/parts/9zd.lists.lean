/-! PURE: the lists -/
/-- rows of kinds; places that aren't there count once -/
def tuL (pl : Nat) (A B C : List Nat) : List (Nat × Nat × Nat) := A.flatMap fun x => (if 1 < pl then B else [0]).flatMap fun y => (if 2 < pl then C else [0]).map fun z => (x, y, z)
def ftT (W : Wld) (c pl : Nat) (t : Nat × Nat × Nat) (m : Nat) : Bool := fS W c 0 t.1 m && (decide (pl ≤ 1) || fS W c 1 t.2.1 m) && (decide (pl ≤ 2) || fS W c 2 t.2.2 m)
/-- how many different lists -/
noncomputable def lsN (W : Wld) (c : Nat) : Nat := dsN ((tuL (plW W.2.1 c) (mkW W.1) (mkW W.1) (mkW W.1)).map fun t => seL (ftT W c (plW W.2.1 c) t))
def prT (σ : Sg) (c pl : Nat) (t : Nat × Nat × Nat) : Int64 × Int64 := (if 2 < pl then fun p => anP p (fpr σ c 2 t.2.2) else id) ((if 1 < pl then fun p => anP p (fpr σ c 1 t.2.1) else id) (fpr σ c 0 t.1))
theorem tuL_len (pl : Nat) (A B C : List Nat) (ha : A.length ≤ 24) (hb : B.length ≤ 24) (hc : C.length ≤ 24) : (tuL pl A B C).length ≤ 13824 := by
  have key : ∀ {α β : Type} (L : List α) (f : α → List β) (n : Nat), (∀ x ∈ L, (f x).length ≤ n) → (L.flatMap f).length ≤ L.length * n := by
    intro α β L f n h
    induction L with
    | nil => exact Nat.le_of_eq (Nat.zero_mul n).symm
    | cons x L ih =>
      rw [List.flatMap_cons, List.length_append, List.length_cons, Nat.succ_mul]
      have h1 := h x (List.mem_cons_self ..)
      have h2 := ih (fun y hy => h y (List.mem_cons_of_mem _ hy))
      omega
  have hC : (if 2 < pl then C else [0]).length ≤ 24 := by
    split
    · exact hc
    · decide
  have hB : (if 1 < pl then B else [0]).length ≤ 24 := by
    split
    · exact hb
    · decide
  have h1 := key A (fun x => (if 1 < pl then B else [0]).flatMap fun y => (if 2 < pl then C else [0]).map fun z => (x, y, z)) (24 * 24) (fun x _ => by
    have h2 := key (if 1 < pl then B else [0]) (fun y => (if 2 < pl then C else [0]).map fun z => (x, y, z)) 24 (fun y _ => by rw [List.length_map]; exact hC)
    exact Nat.le_trans h2 (Nat.mul_le_mul_right _ hB))
  have h3 : A.length * (24 * 24) ≤ 24 * (24 * 24) := Nat.mul_le_mul_right _ ha
  unfold tuL
  omega
theorem tuL_mem {pl : Nat} {A B C : List Nat} {t : Nat × Nat × Nat} : t ∈ tuL pl A B C ↔ t.1 ∈ A ∧ t.2.1 ∈ (if 1 < pl then B else [0]) ∧ t.2.2 ∈ (if 2 < pl then C else [0]) := by
  unfold tuL
  rw [List.mem_flatMap]
  constructor
  · rintro ⟨x, hx, h⟩
    obtain ⟨y, hy, h⟩ := List.mem_flatMap.mp h
    obtain ⟨z, hz, h⟩ := List.mem_map.mp h
    rw [← h]
    exact ⟨hx, hy, hz⟩
  · rintro ⟨h1, h2, h3⟩
    exact ⟨t.1, h1, List.mem_flatMap.mpr ⟨t.2.1, h2, List.mem_map.mpr ⟨t.2.2, h3, rfl⟩⟩⟩
theorem al_fs {W : Wld} {c i k g m : Nat} (h : alB W c i k g = true) (h1 : 1 ≤ m) (h2 : m ≤ 128) (ho : otS W c i m = true) : fS W c i k m = fS W c i g m := by
  unfold alB at h
  rw [decide_eq_true_iff, seL_eq] at h
  have := h m h1 h2
  rw [ho, Bool.true_and, Bool.true_and] at this
  exact this
theorem fs_an {W : Wld} {c i k m : Nat} (hk : k ∈ mkW W.1) (h : fS W c i k m = true) : anS W c i m = true := List.any_eq_true.mpr ⟨k, hk, h⟩
/-- a row of kinds and the row of those that stand for them have the same list -/
theorem rep_eq {W : Wld} {c pl : Nat} (hp : plW W.2.1 c = pl) (h3 : pl ≤ 3) {x y z x' y' z' : Nat} (hx' : x' ∈ mkW W.1) (hy : 1 < pl → y ∈ mkW W.1) (hy' : 1 < pl → y' ∈ mkW W.1) (hz : 2 < pl → z ∈ mkW W.1) (ax : alB W c 0 x x' = true) (ay : 1 < pl → alB W c 1 y y' = true) (az : 2 < pl → alB W c 2 z z' = true) : seL (ftT W c pl (x, y, z)) = seL (ftT W c pl (x', y', z')) := by
  rw [seL_eq]
  intro m h1 h2
  have ot : ∀ i, (∀ j, j < pl → j ≠ i → anS W c j m = true) → otS W c i m = true := fun i hh => by
    unfold otS
    rw [hp, List.all_eq_true]
    intro j hj
    by_cases q : j = i
    · rw [decide_eq_true q, Bool.true_or]
    · rw [hh j (List.mem_range.mp hj) q, Bool.or_true]
  have s1 : ftT W c pl (x, y, z) m = ftT W c pl (x', y, z) m := by
    unfold ftT
    dsimp only
    by_cases qy : (decide (pl ≤ 1) || fS W c 1 y m) = true
    · by_cases qz : (decide (pl ≤ 2) || fS W c 2 z m) = true
      · rw [al_fs ax h1 h2 (ot 0 fun j hj hne => ?_)]
        rcases (by omega : j = 1 ∨ j = 2) with rfl | rfl
        · rw [decide_eq_false (by omega), Bool.false_or] at qy
          exact fs_an (hy (by omega)) qy
        · rw [decide_eq_false (by omega), Bool.false_or] at qz
          exact fs_an (hz (by omega)) qz
      · rw [Bool.eq_false_iff.mpr qz, Bool.and_false, Bool.and_false]
    · rw [Bool.eq_false_iff.mpr qy, Bool.and_false, Bool.and_false, Bool.false_and]
  have s2 : ftT W c pl (x', y, z) m = ftT W c pl (x', y', z) m := by
    unfold ftT
    dsimp only
    by_cases hpl : pl ≤ 1
    · rw [decide_eq_true hpl, Bool.true_or, Bool.true_or]
    · by_cases qx : fS W c 0 x' m = true
      · by_cases qz : (decide (pl ≤ 2) || fS W c 2 z m) = true
        · rw [al_fs (ay (by omega)) h1 h2 (ot 1 fun j hj hne => ?_)]
          rcases (by omega : j = 0 ∨ j = 2) with rfl | rfl
          · exact fs_an hx' qx
          · rw [decide_eq_false (by omega), Bool.false_or] at qz
            exact fs_an (hz (by omega)) qz
        · rw [Bool.eq_false_iff.mpr qz, Bool.and_false, Bool.and_false]
      · simp [Bool.eq_false_iff.mpr qx]
  have s3 : ftT W c pl (x', y', z) m = ftT W c pl (x', y', z') m := by
    unfold ftT
    dsimp only
    by_cases hpl : pl ≤ 2
    · rw [decide_eq_true hpl, Bool.true_or, Bool.true_or]
    · by_cases qx : fS W c 0 x' m = true
      · by_cases qy : (decide (pl ≤ 1) || fS W c 1 y' m) = true
        · rw [al_fs (az (by omega)) h1 h2 (ot 2 fun j hj hne => ?_)]
          rcases (by omega : j = 0 ∨ j = 1) with rfl | rfl
          · exact fs_an hx' qx
          · rw [decide_eq_false (by omega), Bool.false_or] at qy
            exact fs_an (hy' (by omega)) qy
        · rw [Bool.eq_false_iff.mpr qy, Bool.and_false, Bool.false_and, Bool.false_and]
      · rw [Bool.eq_false_iff.mpr qx, Bool.false_and, Bool.false_and, Bool.false_and]
  rw [s1, s2, s3]
theorem alB_refl (W : Wld) (c i k : Nat) : alB W c i k k = true := by
  unfold alB
  exact decide_eq_true rfl
theorem gr_sub {W : Wld} {c i x : Nat} (h : x ∈ grW W c i) : x ∈ mkW W.1 := by
  rcases grA_sub _ _ _ x h with z | z
  · cases z
  · exact z
theorem gr_has {W : Wld} {c i x : Nat} (h : x ∈ mkW W.1) : ∃ g ∈ grW W c i, alB W c i x g = true := grA_has (alB W c i) (alB_refl W c i) (mkW W.1) [] x h
section LISTS
variable {Z : zT} {d : Nat} {W : Wld} {σ τ : Sg} {K : kS} {c : Nat}
theorem pb_prT (H : WkS W σ) (hc : c < W.2.1.length) {pl : Nat} (h3 : pl ≤ 3) {t : Nat × Nat × Nat} (h0 : t.1 < W.1.length) (h1 : 1 < pl → t.2.1 < W.1.length) (h2 : 2 < pl → t.2.2 < W.1.length) {m : Nat} (m1 : 1 ≤ m) (m2 : m ≤ 128) : pb (prT σ c pl t) m = ftT W c pl t m := by
  unfold prT ftT
  by_cases q1 : 1 < pl
  · rw [if_pos q1, decide_eq_false (by omega), Bool.false_or]
    by_cases q2 : 2 < pl
    · rw [if_pos q2, decide_eq_false (by omega), Bool.false_or]
      rw [pb_an, pb_an, H.fit hc (by decide) h0 m1 m2, H.fit hc (by decide) (h1 q1) m1 m2, H.fit hc (by decide) (h2 q2) m1 m2]
    · rw [if_neg q2, decide_eq_true (by omega), Bool.true_or, Bool.and_true]
      show pb (anP _ _) m = _
      rw [pb_an, H.fit hc (by decide) h0 m1 m2, H.fit hc (by decide) (h1 q1) m1 m2]
  · rw [if_neg q1, if_neg (by omega), decide_eq_true (by omega), decide_eq_true (by omega), Bool.true_or, Bool.true_or, Bool.and_true, Bool.and_true]
    show pb (fpr σ c 0 t.1) m = _
    rw [H.fit hc (by decide) h0 m1 m2]
/-- the pairs over the kinds that stand for all are as many as the lists -/
theorem rep_n (H : WkS W σ) (hc : c < W.2.1.length) (h3 : plW W.2.1 c ≤ 3) : dsN ((tuL (plW W.2.1 c) (grW W c 0) (grW W c 1) (grW W c 2)).map (prT σ c (plW W.2.1 c))) = lsN W c := by
  generalize hp : plW W.2.1 c = pl at *
  have hb : ∀ t ∈ tuL pl (grW W c 0) (grW W c 1) (grW W c 2), t.1 < W.1.length ∧ (1 < pl → t.2.1 < W.1.length) ∧ (2 < pl → t.2.2 < W.1.length) := fun t ht => by
    obtain ⟨a1, a2, a3⟩ := tuL_mem.mp ht
    refine ⟨mk_lt (gr_sub a1), fun q => ?_, fun q => ?_⟩
    · rw [if_pos q] at a2
      exact mk_lt (gr_sub a2)
    · rw [if_pos q] at a3
      exact mk_lt (gr_sub a3)
  have e1 : dsN ((tuL pl (grW W c 0) (grW W c 1) (grW W c 2)).map (prT σ c pl)) = dsN ((tuL pl (grW W c 0) (grW W c 1) (grW W c 2)).map fun t => seL (ftT W c pl t)) := by
    refine dsN_map fun t ht t' ht' => ?_
    obtain ⟨b1, b2, b3⟩ := hb t ht
    obtain ⟨c1, c2, c3⟩ := hb t' ht'
    rw [pb_ext, seL_eq]
    refine forall_congr' fun m => forall_congr' fun m1 => forall_congr' fun m2 => ?_
    rw [pb_prT H hc h3 b1 b2 b3 m1 m2, pb_prT H hc h3 c1 c2 c3 m1 m2]
  rw [e1]
  unfold lsN
  rw [hp]
  refine dsN_mem fun s => ?_
  rw [List.mem_map, List.mem_map]
  constructor
  · rintro ⟨t, ht, e⟩
    obtain ⟨a1, a2, a3⟩ := tuL_mem.mp ht
    refine ⟨t, tuL_mem.mpr ⟨gr_sub a1, ?_, ?_⟩, e⟩
    · split at a2
      · rename_i q
        rw [if_pos q]
        exact gr_sub a2
      · rename_i q
        rw [if_neg q]
        exact a2
    · split at a3
      · rename_i q
        rw [if_pos q]
        exact gr_sub a3
      · rename_i q
        rw [if_neg q]
        exact a3
  · rintro ⟨t, ht, e⟩
    obtain ⟨a1, a2, a3⟩ := tuL_mem.mp ht
    obtain ⟨x', hx', ax⟩ := gr_has (c := c) (i := 0) a1
    obtain ⟨y', hy', ay⟩ : ∃ y', y' ∈ (if 1 < pl then grW W c 1 else [0]) ∧ (1 < pl → alB W c 1 t.2.1 y' = true) := by
      split at a2
      · rename_i q
        obtain ⟨y, y1, y2⟩ := gr_has (c := c) (i := 1) a2
        exact ⟨y, by rw [if_pos q]; exact y1, fun _ => y2⟩
      · rename_i q
        exact ⟨0, by rw [if_neg q]; exact List.mem_singleton.mpr rfl, fun z => absurd z q⟩
    obtain ⟨z', hz', az⟩ : ∃ z', z' ∈ (if 2 < pl then grW W c 2 else [0]) ∧ (2 < pl → alB W c 2 t.2.2 z' = true) := by
      split at a3
      · rename_i q
        obtain ⟨y, y1, y2⟩ := gr_has (c := c) (i := 2) a3
        exact ⟨y, by rw [if_pos q]; exact y1, fun _ => y2⟩
      · rename_i q
        exact ⟨0, by rw [if_neg q]; exact List.mem_singleton.mpr rfl, fun z => absurd z q⟩
    refine ⟨(x', y', z'), tuL_mem.mpr ⟨hx', hy', hz'⟩, ?_⟩
    rw [← e]
    exact (rep_eq hp h3 (gr_sub hx') (fun q => by rw [if_pos q] at a2; exact a2) (fun q => by rw [if_pos q] at hy'; exact gr_sub hy') (fun q => by rw [if_pos q] at a3; exact a3) ax ay az).symm
theorem LtF.fpr (g : LtF σ τ) {i k : Nat} (hc : c < 24) (hi : i < 3) (hk : k < 24) : fpr τ c i k = fpr σ c i k := by
  unfold Jvm.Pilot.CDispatchHouseLaw_law_r8218_1ca378.fpr
  rw [g.2.2.2 (fitA c i k) 0 (by show 55 + 1 + 76 * c + 1 + 25 * i + 1 + k ≠ _; omega) (by show 55 + 1 + 76 * c + 1 + 25 * i + 1 + k ≠ _; omega) (by show ¬ (55 + 1 + 76 * c + 1 + 25 * i + 1 + k = 0 ∧ _); omega), g.2.2.2 (fitA c i k) 1 (by show 55 + 1 + 76 * c + 1 + 25 * i + 1 + k ≠ _; omega) (by show 55 + 1 + 76 * c + 1 + 25 * i + 1 + k ≠ _; omega) (by show ¬ (55 + 1 + 76 * c + 1 + 25 * i + 1 + k = 0 ∧ _); omega)]
/-- pairs met so far, their number -/
def MtS (τ : Sg) (n : Nat) (L : List (Int64 × Int64)) : Prop := ∃ S, HsS τ S ∧ S.Nodup ∧ S.length = n ∧ ∀ p, p ∈ S ↔ p ∈ L
/-- one pair more -/
theorem rf_more {a b : Int64} {n : Nat} {L : List (Int64 × Int64)} (F : FX ΦR τ.sh τ.r) (H : MtS τ n L) (hn : L.length < 60000) (h : ∀ (v : Int32) υ n', HsF τ υ → MtS υ n' (L ++ [(a, b)]) → ((v = 0 ∧ n' = n) ∨ (v = 1 ∧ n' = n + 1)) → K (.inl (some (.int v))) υ) : B_X23_isNew_0 Z (d + 1) τ a b K := by
  obtain ⟨S, h1, h2, h3, h4⟩ := H
  have hS : S.length ≤ L.length := nd_le S L h2 (fun x hx => (h4 x).mp hx)
  refine rf_isNew F h1 (by omega) (fun hin => h 0 τ n (HsF.refl τ) ⟨S, h1, h2, h3, fun p => ?_⟩ (Or.inl ⟨rfl, rfl⟩)) (fun hni υ g hu => h 1 υ (n + 1) g ⟨(a, b) :: S, hu, List.nodup_cons.mpr ⟨hni, h2⟩, by rw [List.length_cons, h3], fun p => ?_⟩ (Or.inr ⟨rfl, rfl⟩))
  · rw [h4, List.mem_append, List.mem_singleton]
    constructor
    · exact fun z => Or.inl z
    · rintro (z | z)
      · exact z
      · rw [z]
        exact (h4 _).mp hin
  · rw [List.mem_cons, h4, List.mem_append, List.mem_singleton]
    exact or_comm
theorem MtS.n {n : Nat} {L : List (Int64 × Int64)} (h : MtS τ n L) : n = dsN L := by
  obtain ⟨S, h1, h2, h3, h4⟩ := h
  rw [← h3]
  exact dsN_nd h2 h4
theorem take_fm {α β : Type} (L : List α) (f : α → List β) {j : Nat} {y : α} (h : L[j]? = some y) : (L.take (j + 1)).flatMap f = (L.take j).flatMap f ++ f y := by
  rw [List.take_add_one, h]
  show List.flatMap f (L.take j ++ [y]) = _
  rw [List.flatMap_append]
  congr 1
  exact List.append_nil _
end LISTS

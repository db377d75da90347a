/-! THE SIGN THAT STANDS NOW -/
def mtB (t : Nat → Int32) (p l j : Nat) : Bool := decide ((stA j).1 = l) && (List.range l).all (fun k => stI j k == t (p + k))
theorem mtB_iff {t : Nat → Int32} {p l j : Nat} : mtB t p l j = true ↔ mt t p l j := by
  unfold mtB mt
  rw [Bool.and_eq_true, decide_eq_true_eq, List.all_eq_true]
  constructor
  · rintro ⟨h1, h2⟩
    exact ⟨h1, fun k hk => eq_of_beq (h2 k (List.mem_range.mpr hk))⟩
  · rintro ⟨h1, h2⟩
    exact ⟨h1, fun k hk => beq_iff_eq.mpr (h2 k (List.mem_range.mp hk))⟩
/-- the word that stands at p, l letters long -/
def wdJ (t : Nat → Int32) (p l : Nat) : Rf := match stE.find? (mtB t p l) with
  | some j => Rf.old j
  | none => Rf.nul
theorem stE_u : ∀ j ∈ stE, ∀ j' ∈ stE, (stA j).1 = (stA j').1 → (List.range (stA j).1).all (fun k => stI j k == stI j' k) = true → j = j' := by decide +kernel
theorem wd_eq {t : Nat → Int32} {p l : Nat} {x : Rf} (h : wd t p l x) : x = wdJ t p l := by
  unfold wdJ
  rcases h with ⟨j, hj, rfl, hm⟩ | ⟨rfl, hn⟩
  · cases e : stE.find? (mtB t p l) with
    | none => exact absurd (mtB_iff.mpr hm) (List.find?_eq_none.mp e j hj)
    | some j' =>
      have h1 := mtB_iff.mp (List.find?_some e)
      have h2 := List.mem_of_find?_eq_some e
      have : j = j' := stE_u j hj j' h2 (hm.1.trans h1.1.symm) (List.all_eq_true.mpr fun k hk => by
        have hk := List.mem_range.mp hk
        rw [hm.1] at hk
        exact beq_iff_eq.mpr ((hm.2 k hk).trans (h1.2 k hk).symm))
      rw [this]
  · rw [List.find?_eq_none.mpr fun j hj z => hn j hj (mtB_iff.mp z)]
theorem wd_J (t : Nat → Int32) (p l : Nat) : wd t p l (wdJ t p l) := by
  unfold wdJ
  cases e : stE.find? (mtB t p l) with
  | none => exact Or.inr ⟨rfl, fun j hj z => List.find?_eq_none.mp e j hj (mtB_iff.mpr z)⟩
  | some j => exact Or.inl ⟨j, List.mem_of_find?_eq_some e, rfl, mtB_iff.mp (List.find?_some e)⟩
/-- how many letters the name at p has -/
def lnS (t : Nat → Int32) (n p : Nat) : Nat := skN t n (n - p) p - p
/-- behind the sign at p -/
def enS (t : Nat → Int32) (n p : Nat) : Nat := if p < n then (if isLet (t p) then skN t n (n - p) p else if isDig (t p) then (skD t n (n - p) p 0).1 else p + if two t n p then 2 else 1) else p
/-- the sort of the sign at p: 0 end, 1 word, 2 name, 3 digits, 4 sign, 5 none -/
def soS (t : Nat → Int32) (n p : Nat) : Int32 := if p < n then (if isLet (t p) then (if lnS t n p ≤ 16 then (if wdJ t p (lnS t n p) = Rf.nul then 2 else 1) else 5) else if isDig (t p) then (if lg_cmp (skD t n (n - p) p 0).2 2147483647 ≤ 0 then 3 else 5) else if 32 < t p ∧ 0 ≤ stF 184 (t p) then 4 else 5) else 0
/-- the number of the sign at p -/
def vaS (t : Nat → Int32) (n p : Nat) : Int32 := if isDig (t p) then Int64.toInt32 (skD t n (n - p) p 0).2 else if two t n p then 256 + t p else t p
/-- the sign at p stands now -/
def Cur (t : Nat → Int32) (n p : Nat) (τ : Sg) : Prop := p ≤ n ∧ τ.i 0 18 = Int32.ofNat p ∧ τ.i 0 16 = Int32.ofNat (enS t n p) ∧ τ.i 0 17 = soS t n p ∧ (p < n → ¬ isLet (t p) → τ.i 0 19 = vaS t n p) ∧ (p < n → isLet (t p) → τ.i 0 26 = Int32.ofNat (lnS t n p) ∧ (lnS t n p ≤ 16 → τ.r 0 25 = wdJ t p (lnS t n p)))
/-- the same but for what next() changes -/
def LX (σ τ : Sg) : Prop := τ.sh = σ.sh ∧ τ.l = σ.l ∧ (∀ a k, ¬ (a = 0 ∧ (k = 16 ∨ k = 17 ∨ k = 18 ∨ k = 19 ∨ k = 26)) → τ.i a k = σ.i a k) ∧ (∀ a k, ¬ (a = 0 ∧ k = 25) → τ.r a k = σ.r a k)
theorem LX.refl (σ : Sg) : LX σ σ := ⟨rfl, rfl, fun _ _ _ => rfl, fun _ _ _ => rfl⟩
theorem LX.trans {σ τ υ : Sg} (h : LX σ τ) (g : LX τ υ) : LX σ υ := ⟨g.1.trans h.1, g.2.1.trans h.2.1, fun a k q => (g.2.2.1 a k q).trans (h.2.2.1 a k q), fun a k q => (g.2.2.2 a k q).trans (h.2.2.2 a k q)⟩
theorem LX.wi {σ τ : Sg} (h : LX σ τ) {k : Nat} {v : Int32} (hk : k = 16 ∨ k = 17 ∨ k = 18 ∨ k = 19 ∨ k = 26) : LX σ (τ.wi 0 k v) := ⟨h.1, h.2.1, fun a j q => (up_ne (fun z => q ⟨z.1, by rw [z.2]; exact hk⟩)).trans (h.2.2.1 a j q), h.2.2.2⟩
theorem LX.wr {σ τ : Sg} (h : LX σ τ) {v : Rf} : LX σ (τ.wr 0 25 v) := ⟨h.1, h.2.1, h.2.2.1, fun a j q => (up_ne q).trans (h.2.2.2 a j q)⟩
/-- the text on the tape -/
def TX (t : Nat → Int32) (n : Nat) (σ : Sg) : Prop := n ≤ 8192 ∧ σ.i 0 15 = Int32.ofNat n ∧ (∀ k, k < 8192 → σ.i 37 k = t k) ∧ ∀ k, (t k).toInt ≤ 127
theorem TX.lx {t : Nat → Int32} {n : Nat} {σ τ : Sg} (h : TX t n σ) (g : LX σ τ) : TX t n τ := ⟨h.1, (g.2.2.1 0 15 (by decide)).trans h.2.1, fun k hk => (g.2.2.1 37 k (fun z => by have := z.1; omega)).trans (h.2.2.1 k hk), h.2.2.2⟩
/-- the sign behind the one at p -/
def nxS (t : Nat → Int32) (n p : Nat) : Nat := skB t n (n - enS t n p) (enS t n p)
theorem skD_le (t : Nat → Int32) (n : Nat) : ∀ m a v, a ≤ (skD t n m a v).1 ∧ (a ≤ n → (skD t n m a v).1 ≤ n)
  | 0, a, v => ⟨Nat.le_refl _, fun h => h⟩
  | m + 1, a, v => by
    unfold skD
    split
    · rename_i h
      have := skD_le t n m (a + 1) (if (1099511627776 : Int64) < ((((10 : Int64) * v) + (Int32.toInt64 (t a))) - (48 : Int64)) then (1099511627776 : Int64) else ((((10 : Int64) * v) + (Int32.toInt64 (t a))) - (48 : Int64)))
      exact ⟨by omega, fun _ => this.2 (by omega)⟩
    · exact ⟨Nat.le_refl _, fun h => h⟩
theorem enS_le (t : Nat → Int32) {n p : Nat} (h : p ≤ n) : enS t n p ≤ n := by
  unfold enS
  split
  · rename_i hl
    split
    · exact (skN_le t n _ p).2 h
    · split
      · exact (skD_le t n _ p 0).2 h
      · split
        · rename_i z
          have := z.2.1
          omega
        · omega
  · exact h
theorem nxS_le (t : Nat → Int32) {n p : Nat} (h : p ≤ n) : nxS t n p ≤ n := skB_le t n _ _ (enS_le t h)
theorem nx_cur {t : Nat → Int32} {n p : Nat} {σ τ : Sg} (hp : p ≤ n) (F : FX ΦR σ.sh σ.r) (h : nx t n p σ τ) : FX ΦR τ.sh τ.r ∧ LX σ τ ∧ Cur t n p τ := by
  have base : LX σ (σ.wi 0 18 (Int32.ofNat p)) := (LX.refl σ).wi (by decide)
  rcases h with ⟨h1, rfl⟩ | ⟨h1, h2, h3, rfl⟩ | ⟨h1, h2, h3, x, hx, rfl⟩ | ⟨h1, h2, h3, rfl⟩ | ⟨h1, h2, h3, rfl⟩
  · refine ⟨F, (base.wi (by decide)).wi (by decide), hp, rfl, ?_, ?_, fun z => by omega, fun z => by omega⟩
    · show Int32.ofNat p = _
      rw [enS, if_neg (by omega)]
    · show (0 : Int32) = _
      rw [soS, if_neg (by omega)]
  · refine ⟨F, ((base.wi (by decide)).wi (by decide)).wi (by decide), hp, rfl, ?_, ?_, fun _ z => absurd h2 z, fun _ _ => ⟨rfl, fun z => absurd z h3⟩⟩
    · show Int32.ofNat (skN t n (n - p) p) = _
      rw [enS, if_pos h1, if_pos h2]
    · show (5 : Int32) = _
      rw [soS, if_pos h1, if_pos h2, if_neg (show ¬ lnS t n p ≤ 16 from h3)]
  · have e := wd_eq hx
    subst e
    refine ⟨FX.w (Φ := ΦR) (a := 0) (k := 25) (v := wdJ t p (skN t n (n - p) p - p)) F cM_25, ((((base.wi (by decide)).wi (by decide)).wi (by decide)).wr).wi (by decide), hp, rfl, ?_, ?_, fun _ z => absurd h2 z, fun _ _ => ⟨rfl, fun _ => rfl⟩⟩
    · show Int32.ofNat (skN t n (n - p) p) = _
      rw [enS, if_pos h1, if_pos h2]
    · show (if wdJ t p (skN t n (n - p) p - p) = Rf.nul then (2 : Int32) else 1) = _
      rw [soS, if_pos h1, if_pos h2, if_pos (show lnS t n p ≤ 16 from h3)]
      rfl
  · refine ⟨F, ((base.wi (by decide)).wi (by decide)).wi (by decide), hp, rfl, ?_, ?_, fun _ _ => ?_, fun _ z => absurd z h2⟩
    · show Int32.ofNat (skD t n (n - p) p 0).1 = _
      rw [enS, if_pos h1, if_neg h2, if_pos h3]
    · show (if lg_cmp (skD t n (n - p) p 0).2 2147483647 ≤ 0 then (3 : Int32) else 5) = _
      rw [soS, if_pos h1, if_neg h2, if_pos h3]
    · show Int64.toInt32 (skD t n (n - p) p 0).2 = _
      rw [vaS, if_pos h3]
  · refine ⟨F, ((base.wi (by decide)).wi (by decide)).wi (by decide), hp, rfl, ?_, ?_, fun _ _ => ?_, fun _ z => absurd z h2⟩
    · show Int32.ofNat (p + if two t n p then 2 else 1) = _
      rw [enS, if_pos h1, if_neg h2, if_neg h3]
    · show (if 32 < t p ∧ 0 ≤ stF 184 (t p) then (4 : Int32) else 5) = _
      rw [soS, if_pos h1, if_neg h2, if_neg h3]
    · show (if two t n p then 256 + t p else t p) = _
      rw [vaS, if_neg h3]
section CUR
variable {Z : zT} {d n p : Nat} {σ : Sg} {K : kS} {t : Nat → Int32}
/-- next(), from a sign to the one behind it -/
theorem rf_nxt (hZ : ZK Z) (hd : 12 ≤ d) (F : FX ΦR σ.sh σ.r) (hT : TX t n σ) (hC : Cur t n p σ) (hk : ∀ τ, FX ΦR τ.sh τ.r → LX σ τ → Cur t n (nxS t n p) τ → K (.inl none) τ) : B_X23_next_0 Z (d + 3) σ K := by
  refine rf_next hZ hd F hT.1 hT.2.1 hT.2.2.1 hT.2.2.2 (enS_le t hC.1) hC.2.2.1 fun τ h => ?_
  obtain ⟨h1, h2, h3⟩ := nx_cur (nxS_le t hC.1) F h
  exact hk τ h1 h2 h3
end CUR

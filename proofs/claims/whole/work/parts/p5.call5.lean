/-! THE CLASS: calls on the machine, whole -/
section ROWN
variable {nr : Nat → Nat → Int}
theorem lyG_ne (f : Nat) (L : List Nat) : (lyG nr false f L).2 = false := by
  induction f generalizing L with
  | zero => rfl
  | succ f ih =>
    by_cases hne : L = []
    · have e : lyG nr false (f + 1) L = ([], false) := if_pos hne
      rw [e]
    · cases hp : pkO nr false L with
      | none =>
        unfold pkO at hp
        split at hp
        · cases hp
        · cases hp
      | some i =>
        rw [lyG_some hne hp]
        exact ih _
theorem lyG_cons {L : List Nat} (h : L ≠ []) : (lyG nr false L.length L).1 ≠ [] := by
  obtain ⟨n, hn⟩ : ∃ n, L.length = n + 1 := ⟨L.length - 1, by have := List.length_pos_iff.mpr h; omega⟩
  rw [hn]
  cases hp : pkO nr false L with
  | none =>
    unfold pkO at hp
    split at hp
    · cases hp
    · cases hp
  | some i =>
    rw [lyG_some h hp]
    exact fun z => by cases z
theorem rwG_ne : ∀ gs : List (List Nat), (∃ g ∈ gs, g ≠ []) → (rwG nr false gs).1 ≠ []
  | [], ⟨g, hg, _⟩ => by cases hg
  | g :: r, ⟨x, hx, h⟩ => by
    rw [rwG, if_neg (by rw [lyG_ne]; decide)]
    intro z
    obtain ⟨z1, z2⟩ := List.append_eq_nil_iff.mp z
    rcases List.mem_cons.mp hx with rfl | hx
    · exact lyG_cons h z1
    · exact rwG_ne r ⟨x, hx, h⟩ z2
end ROWN
theorem rowW_y {W : Wld} {wy : Nat} {on : List Nat} {c : Nat} {k : Nat → Nat} {v : Nat → Int} (hW : WfW W) (hon : on.Nodup) (h120 : W.2.2.2.length ≤ 120) (han : ((apL W on c k v W.2.2.2.length).any fun m => decide (rlM W.2.2.2 m = 0)) = true) : RwY W c (rowW W wy on c k (apL W on c k v W.2.2.2.length)) := by
  refine ⟨rowW_ok hon h120, fun role m hm => ?_, fun hj => ?_⟩
  · unfold rowW at hm
    obtain ⟨g, q1, q2⟩ := (rwG_mem _).1 m hm
    obtain ⟨l, -, rfl⟩ := List.mem_map.mp q1
    have hap := (List.mem_filter.mp q2).1
    have := (List.mem_filter.mp hap).2
    unfold mnB at this
    simp only [Bool.and_eq_true, decide_eq_true_eq] at this
    exact this.1.1.1
  · obtain ⟨m, hm, hr⟩ := List.any_eq_true.mp han
    have hr := of_decide_eq_true hr
    have hap := (List.mem_filter.mp hm).2
    simp only [Bool.and_eq_true] at hap
    have hb := hap.2
    unfold apB at hb
    simp only [Bool.and_eq_true, Bool.or_eq_true, decide_eq_true_eq] at hb
    obtain ⟨⟨m1, m2⟩, -⟩ := apL_mem m hm
    have ex : W.2.2.2[m - 1]? = some W.2.2.2[m - 1] := List.getElem?_eq_getElem (by omega)
    obtain ⟨kc, -, -, -, w4, -⟩ := hW.2.2 _ (List.getElem_mem (show m - 1 < _ by omega))
    have el : lyM W.2.2.2 m = W.2.2.2[m - 1].1.2.2.1 := by
      unfold lyM
      rw [ex]
      rfl
    have hl : lyM W.2.2.2 m ∈ lyS on := by
      unfold lyS
      rcases hb.1 with q | q
      · refine List.mem_append.mpr (Or.inr (List.mem_singleton.mpr ?_))
        rw [el] at q ⊢
        omega
      · by_cases z : lyM W.2.2.2 m < 0
        · refine List.mem_append.mpr (Or.inr (List.mem_singleton.mpr ?_))
          rw [el] at z ⊢
          omega
        · exact List.mem_append.mpr (Or.inl (List.mem_map.mpr ⟨_, List.mem_reverse.mpr q, by omega⟩))
    unfold rowW
    rw [show (decide (0 = 1) || (decide (0 = 0) && decide (jnW W.2.1 c = 0))) = false by rw [decide_eq_false hj]; rfl]
    refine List.length_pos_iff.mpr (rwG_ne _ ⟨_, List.mem_map.mpr ⟨_, hl, rfl⟩, fun z => ?_⟩)
    have : m ∈ gpL W.2.2.2 (apL W on c k v W.2.2.2.length) 0 (lyM W.2.2.2 m) := List.mem_filter.mpr ⟨hm, by simp only [Bool.and_eq_true, decide_eq_true_eq]; exact ⟨hr, trivial⟩⟩
    rw [z] at this
    cases this
section CLM
variable {Z : zT} {d : Nat} {C V V' V2 : Nat × Nat × Nat × Nat} {W : Wld} {wy a0 ch U fuel : Nat} {f : Fc} {S : Es} {k P dp tn j nv hm : Nat} {lt : Int32} {on : List Nat} {stk vs args : List Int64} {σ τ υ : Sg} {K Kx : kS} {N : Nat → Prop} {e H role i m c bk ph tu t0 u' : Nat} {R : Nat → List Nat × Bool} {jv v : Int64} {en : Ef}
/-- after choosing -/
theorem McA.cz {lk : Nat} (A : McA C W wy a0 ch U f fuel V S 0 P dp lt on stk tn j σ) (L : LqS C W wy a0 V' u' τ) (hN : NeS W τ) (hT : NtS W wy τ) (c2 : ChF (dp + 1) V V' σ τ) (hu : u' + 18 * upN τ ≤ U) (h4 : τ.i 84 4 = Int32.ofNat (S.2.1 + lk)) : McA C W wy a0 ch U f fuel V' (S.1, S.2.1 + lk, S.2.2) 0 P dp lt on stk tn j τ := by
  obtain ⟨a1, a2, ⟨a7, ⟨s, a14, as⟩, ⟨a6, a6'⟩, a8, a9, a11, a10, al, ast⟩, ⟨af, af'⟩, at1, at2⟩ := id A
  have F := a1.fx
  obtain ⟨⟨u, b1, b1'⟩, b2, b3, ⟨f0, f1, f2⟩, b5⟩ := id a1
  obtain ⟨m1, m2, m5, m6, m7⟩ := id a2
  obtain ⟨S0, hS0⟩ := b1.2.2.1
  obtain ⟨-, -, -, -, p8, p9, p10, -⟩ := hS0.1
  obtain ⟨-, -, -, -, q0, q1, q2, -⟩ := id b3
  have cv := b1.2.1
  have hl := F.len
  have sq := b2.1.sq
  have row : ∀ a, a = 83 ∨ (93 ≤ a ∧ a ≤ 100) → τ.i a = σ.i a ∧ τ.l a = σ.l a := fun a q => c2.1.2.2 a (by omega) (fun z => by unfold seE neE at z; omega)
  have cr : ∀ a, a = C.2.1 ∨ a = C.2.2.1 ∨ a = C.2.2.2 → τ.i a = σ.i a := fun a q => by
    obtain ⟨c1, c2', c3, c4⟩ := cv.1 a q
    have := b1.1.2.2.2.2.2.2 a q
    exact (c2.1.2.2 a c1 (fun z => by unfold seE neE at z; omega)).1
  have r83 := row 83 (by omega)
  refine ⟨⟨⟨u', L, hu⟩, ⟨hN, hT⟩, b3.gw c2.1 (by omega), ⟨by rw [cr _ (Or.inl rfl)]; exact f0, by rw [cr _ (Or.inr (Or.inl rfl))]; exact f1, by rw [cr _ (Or.inr (Or.inr rfl))]; exact f2⟩, (c2.2.1 3 (by decide) (by decide)).trans b5⟩, ⟨h4, ?_, ?_, m6, ?_⟩, ⟨?_, ⟨s, ?_, as⟩, ⟨?_, a6'⟩, ?_, ?_, ?_, ?_, al, ?_⟩, ⟨af, af'⟩, at1, at2⟩
  · rw [r83.1, (row 96 (by omega)).1]
    exact m2
  · rw [r83.1]
    exact m5
  · rw [(row 97 (by omega)).1]
    exact m7
  · rw [r83.1]; exact a7
  · rw [r83.1]; exact a14
  · rw [r83.1]; exact a6
  · rw [r83.1]; exact a8
  · rw [r83.1]; exact a9
  · rw [r83.1]; exact a11
  · rw [r83.2]; exact a10
  · unfold StkS
    rw [r83.1, (row 93 (by omega)).2]
    exact ast
theorem cl_m {Fr : Sg → Prop} (hEn : EnM Z d C W wy a0 ch U f fuel dp en) (hW : WfW W ∧ 1 ∈ mkW W.1 ∧ 2 ∈ mkW W.1) (hd : dp ≤ 24) (hch : ch < 4) (hU : U < 2147483648) : ClM Z d C W wy a0 ch U f fuel dp (clR W wy ch en) Fr := by
  intro V P c nv args on S stk lt tn j σ K hc ha hav hP hf hnv fr A hs hK
  refine pf_0 A hP hf (fun τ g A1 => ⟨fun q => absurd q (show ¬ (22 : Int32) = 20 by decide), fun _ => ?_, fun q => absurd q (show ¬ (22 : Int32) = 23 by decide), fun q => absurd q (show ¬ (22 : Int32) = 24 by decide), fun q => absurd q (show ¬ (22 : Int32) = 25 by decide), fun _ q => absurd rfl q⟩)
  have c24 := (A1.jn hc).2.2
  have hpl := A1.pl hc
  rw [oN_t (by omega), hpl.1, ← ha]
  refine ⟨ib_oN c24 (by decide), cl_takeGiven A1.fx A1.skS (by omega) (fun τ1 g1 h5 hl hs1 _ hg => ?_)⟩
  have A2 := A1.tg g1 h5 hl hs1
  have gg : MFr (dp + 1) (Nv dp nv) V V σ τ1 := (g.ms _ _ _).tr ((g1.mono (E' := mE) (fun a q => by unfold mE; omega)).mf _ _ (fun jj _ => by rw [(g1.2.2 94 (by omega)).2]))
  obtain ⟨a1, a2, ⟨a7, ⟨s, a14, as⟩, ⟨a6, a6'⟩, a8, a9, a11, a10, al, ast⟩, ⟨af, af'⟩, at1, at2⟩ := id A2
  obtain ⟨⟨u, b1, b1'⟩, b2, b3, fC, b5⟩ := id a1
  obtain ⟨S0, hS0⟩ := b1.2.2.1
  show C_X0_choose_0 Z (d + 8) τ1 (Int32.ofNat c) 95 (τ1.i 83 6 + 1) (τ1.l 83 10) _
  rw [a6, oN_1, a10]
  have h120 := A2.sk24.2.2.2.2.1.2.1
  have ga : ∀ p, p < plW W.2.1 c → ∃ x kk, args[p]? = some x ∧ τ1.l 95 p = x ∧ kdV x = Int32.ofNat kk ∧ kk ∈ mkW W.1 ∧ kk < W.1.length := fun p hp => by
    have hx : args[p]? = some args[p] := List.getElem?_eq_getElem (by omega)
    obtain ⟨kk, k1, k2, k3⟩ := (hav _ (List.mem_of_getElem? hx)).kd
    exact ⟨_, kk, hx, hg p _ hx, k1, k2, k3⟩
  have w24 := A2.sk24.2.1.2.1
  have gv : GvS 95 (plW W.2.1 c) (kdA' args) (nmA args) τ1 := by
    refine ⟨⟨3, Nat.le_refl _, A2.fx.s t0_95⟩, fun p hp => ?_⟩
    obtain ⟨x, kk, e1, e2, e3, e4, e5⟩ := ga p hp
    unfold kdA' nmA
    rw [e1, e2]
    dsimp only
    rw [e3, oN_t (by omega)]
    exact ⟨rfl, rfl⟩
  have hk : ∀ p, p < plW W.2.1 c → kdA' args p ∈ mkW W.1 := fun p hp => by
    obtain ⟨x, kk, e1, e2, e3, e4, e5⟩ := ga p hp
    unfold kdA'
    rw [e1]
    dsimp only
    rw [e3, oN_t (by omega)]
    exact e4
  have hkz : ∀ p, plW W.2.1 c ≤ p → kdA' args p = 0 := fun p hp => by
    unfold kdA'
    rw [List.getElem?_eq_none (by omega)]
  refine cl_choose (d := d + 1) b1 b2.1 b2.2 hkz hc gv ⟨by decide, by decide⟩ hk al (by omega) hch b5 a2.1 (by omega) (fun τ2 V2 u2 L2 N2 T2 c2 hu2 e44 => ?_)
  have A3 := A2.cz L2 N2 T2 c2 (by omega) e44
  have g3 : MFr (dp + 1) (Nv dp nv) V V2 σ τ2 := gg.tr (c2.mf _ hS0.1 A2.fx b2.1.sq)
  have K3 := hK.fr g3
  have hg3 : ∀ (i : Nat) y, args[i]? = some y → τ2.l 95 i = y := fun i y hy => by
    obtain ⟨-, -, -, -, p8, p9, p10, -⟩ := hS0.1
    have := A2.fx.len
    have := b2.1.sq
    rw [(c2.1.2.2 95 (by omega) (fun z => by unfold seE neE at z; omega)).2]
    exact hg i y hy
  unfold clR at K3
  refine ⟨fun an hrow => ?_, fun an => ?_⟩
  · rw [if_pos an] at K3
    have hR := rowW_y (wy := wy) hW.1 al.2.2 h120 an
    generalize rowW W wy on c (kdA' args) (apL W on c (kdA' args) (nmA args) W.2.2.2.length) = R at hR K3 hrow
    have C3 : CcM (dp + 1) R τ2 := hrow
    have X : InX C W dp c (dp + 1) (P + 1) nv R args stk := ⟨hW, hR, hc, Nat.le_refl _, ha, hav, by omega, hs, by omega, hd⟩
    have r1 := (hR.1 1).1
    obtain ⟨-, -, ⟨c7, -, ⟨c6, -⟩, -⟩, -⟩ := id A3
    refine T_X4_beginCall_0 A3.fx ⟨fun _ => ?_, fun z => absurd z (by decide)⟩
    rw [c6, oN_1]
    refine cl_size (role := 1) A3.fx (by omega) (by decide) C3 ?_
    show (Int32.ofNat (R 1).1.length ≤ Int32.ofNat 0 → _) ∧ (¬ Int32.ofNat (R 1).1.length ≤ Int32.ofNat 0 → _)
    rw [oN_le (by omega) (by decide)]
    refine ⟨fun q => ?_, fun q => ?_⟩
    · rw [if_neg (by omega)] at K3
      refine cl_several (role := 1) A3.fx (by omega) (by decide) C3 ?_
      cases hsv : (R 1).2 with
      | false =>
        rw [hsv, if_neg (by decide)] at K3
        rw [if_neg (by decide)]
        refine ⟨fun _ => ?_, fun z => absurd rfl z⟩
        rw [c7]
        exact gi_begin (e := d + 2) hEn X A3 C3 hg3 K3 (fun _ w => w)
      | true =>
        rw [hsv, if_pos rfl] at K3
        rw [if_pos rfl]
        refine ⟨fun z => absurd z (by decide), fun _ => ?_⟩
        exact pf_flt (q := 2) A3 (by decide) hW.2.2 K3 (MFr.refl _ _ _ _)
    · rw [if_pos (by omega)] at K3
      rw [c7]
      exact en_back (e := d + 5) (role := 1) (i := 0) hEn X (by decide) (by omega) A3 C3 hg3 K3 (fun _ w => w)
  · rw [if_neg (by rw [an]; decide)] at K3
    refine T_X4_beginCall_0 A3.fx ⟨fun z => absurd rfl z, fun _ => ?_⟩
    exact pf_flt (q := 1) A3 (by decide) hW.2.2 K3 (MFr.refl _ _ _ _)
/-- methods begin, at every depth -/
theorem en_all (hW : RcW W) (hch : ch < 4) (hU : U < 2147483648) : ∀ (n dp : Nat), dp + n = 24 → EnM Z d C W wy a0 ch U f fuel dp (enK W wy ch fuel n)
  | 0, dp, h => by
    obtain rfl : dp = 24 := by omega
    exact en_0 hW.2.2.2
  | n + 1, dp, h => by
    have ih := en_all hW hch hU n (dp + 1) (by omega)
    exact en_k h hW (fun Fr _ => cl_m ih ⟨hW.1, hW.2.2⟩ (by omega) hch hU) (fun H c m i R hH hc hR hm hi => fu_m ih ⟨hW.1, hW.2.2⟩ (by omega) hH hc hR hm hi)
end CLM

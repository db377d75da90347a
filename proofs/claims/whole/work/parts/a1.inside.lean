/-! THE REFERENCE: inside(), joined(), further() -/
theorem bl_T {b : Bool} (h : ¬ b = false) : b = true := by
  cases b with
  | false => exact absurd rfl h
  | true => rfl
theorem i32_m1 (x : Int32) : x + (-1) = x - 1 := (Int32.sub_eq_add_neg x 1).symm
theorem rf_fault2 {Z : zT} {d : Nat} {σ : Sg} {n : Int32} {K1 K2 : kS} (F : FX ΦR σ.sh σ.r) (h : K2 (.inr ("DispatchHouseModel$Failed", 2132)) (σ.wl 0 78 (vlX 2 n))) : B_X23_fault_0 Z (d + 2) σ n (yR K1 fun v τ => ∃ x, aT τ v x ∧ K2 (.inr (x, v)) τ) := by
  refine S_X23_fault_0 F (rf_value F ?_)
  exact ⟨_, (fx_at (σ := σ.wl 0 78 (vlX 2 n)) F).1, h⟩
section INSIDE
variable {Z : zT} {W : Wld} {lst : List Nat} {b wy ch fuel dp cn nv D : Nat} {en : Ef} {j c d : Nat} {R : Nat → List Nat × Bool} {args : List Int64} {l1 l2 l3 : Int64} {on : List Nat} {K : kS}
theorem EvK.bn2 {σ : Sg} {r : Rs × Es} {f : Int64 → Es → Rs × Es} {C : Int64 → Sg → Prop} {K' : kS} (h : EvK W lst b wy ch fuel dp cn nv on σ (bnR r f) K) (hk : ∀ e τ, K (.inr e) τ → K' (.inr e) τ) (hc : ∀ v S τ, EvT W lst b wy ch fuel dp cn nv on σ τ (.inl v, S) → EvK W lst b wy ch fuel dp cn nv on τ (f v S) K → C v τ) : EvK W lst b wy ch fuel dp cn nv on σ r (yL K' C) := fun τ q => by
  rcases r with ⟨v | v | v, S⟩
  · exact hc v S τ q (fun υ z => h υ ⟨q.1.tr z.1, z.2⟩)
  · exact hk _ _ (h τ q)
  · exact hk _ _ (h τ q)
theorem EvK.flt2 {σ : Sg} {n : Int32} {S : Es} {vs : List Int64} {Fr : Sg → Prop} {K1 K2 : kS} (A : EvA W lst b wy ch fuel dp cn Fr on vs S σ) (hb : S.2.2.2.1 ≤ S.1) (h2 : 2 ∈ mkW W.1) (h : ∀ τ, EvT W lst b wy ch fuel dp cn nv on σ τ (faR n S) → K2 (.inr ("DispatchHouseModel$Failed", 2132)) τ) : B_X23_fault_0 Z (d + 2) σ n (yR K1 fun v τ => ∃ x, aT τ v x ∧ K2 (.inr (x, v)) τ) := by
  obtain ⟨a1, a2, a3, a4, a5⟩ := A
  refine rf_fault2 a1.1.1 (h _ ⟨EvF.wl (by unfold evL; omega), a1.sm (SmW.wl (Or.inl rfl)) a1.1.1, a2.keep rfl rfl (by rw [wl_l, if_neg (by decide)]) a2.2.2.2.1 a2.2.2.2.2.1 rfl rfl rfl rfl rfl, a5, ⟨⟨2, n, rfl, h2⟩, wl_eq⟩, hb⟩)
/-- those behind -/
theorem rf_behind (hE : EnH Z W lst b wy ch fuel dp cn D en) (hd : D ≤ d) (hR : RwG W c R) (hc : c < W.2.1.length) (hj : j < cn) (h48 : cn ≤ 47) (ha : args.length = plW W.2.1 c) (hav : ∀ x ∈ args, VlG W x) (hG : ArG args l1 l2 l3) {v : Int64} (hv : VlG W v) : ∀ (n : Nat) (S : Es) (σ : Sg), n ≤ (R 3).1.length → EvA W lst b wy ch fuel dp cn (fun σ => CcS σ (2981 + 8 * j) c R) on [] S σ → S.2.2.2.1 ≤ S.1 → EvK W lst b wy ch fuel dp cn nv on σ (ruD en (c, R) 3 args on n S fun S => (.inl v, S)) K → B_X23_inside_118 Z (d + 1) σ (2981 + 8 * j) l1 l2 l3 v (Int32.ofNat n - 1) K
  | 0, S, σ, hn, A, hb, hK => by
    refine S_X23_inside_118 A.fx (kE_2129 (by omega)) ⟨fun _ => ?_, fun q => absurd (by decide) q⟩
    exact EvK.vl hK (EvF.refl _ _ _ _) A.1 A.2.1 A.2.2.2.2 hv hb
  | n + 1, S, σ, hn, A, hb, hK => by
    have h120 := (hR 3).1
    rw [oN_p1 (by omega), Nat.add_sub_cancel]
    refine S_X23_inside_118 A.fx (kE_2129 (by omega)) ⟨fun q => absurd q ?_, fun _ => ?_⟩
    · rw [show (0 : Int32) = Int32.ofNat 0 from rfl, oN_lt (by omega) (by decide)]
      omega
    · refine hE d nv 3 n j c R args l1 l2 l3 on S σ _ hd (by decide) (by omega) hR hc hj ha hav hG A hb (EvK.bn hK fun v2 S2 τ2 g2 K2 => ?_)
      have A2 := g2.a A (fun _ _ _ g h => CcS.ev hj g h) (Nat.zero_le _)
      rw [i32_m1]
      exact rf_behind hE hd hR hc hj h48 ha hav hG hv n S2 τ2 (by omega) A2 g2.2.2.2.2.2 K2
/-- answers joined -/
theorem rf_join (hE : EnH Z W lst b wy ch fuel dp cn D en) (hd : D ≤ d) (hR : RwG W c R) (hc : c < W.2.1.length) (hj : j < cn) (h48 : cn ≤ 47) (ha : args.length = plW W.2.1 c) (hav : ∀ x ∈ args, VlG W x) (hG : ArG args l1 l2 l3) {jn : Nat} (hjn : jn ≤ 4) {f : Int32 → Es → Rs × Es} {C : Int32 → Sg → Prop} (hC : ∀ v S τ, EvA W lst b wy ch fuel dp cn (fun σ => CcS σ (2981 + 8 * j) c R) on [] S τ → S.2.2.2.1 ≤ S.1 → EvK W lst b wy ch fuel dp cn nv on τ (f v S) K → C v τ) : ∀ (n i : Nat) (v : Int32) (S : Es) (σ : Sg), i + n = (R 0).1.length → EvA W lst b wy ch fuel dp cn (fun σ => CcS σ (2981 + 8 * j) c R) on [] S σ → S.2.2.2.1 ≤ S.1 → EvK W lst b wy ch fuel dp cn nv on σ (jnR en (c, R) jn args on n i v S f) K → B_X23_joined__15 Z (d + 1) σ (2981 + 8 * j) (Int32.ofNat jn) l1 l2 l3 v (Int32.ofNat i) (yI K C)
  | 0, i, v, S, σ, hn, A, hb, hK => by
    have h120 := (hR 0).1
    refine S_X23_joined__15 A.fx ⟨kE_2129 (by omega), fun _ => hC v S σ A hb hK, fun q => absurd ?_ q⟩
    rw [(A.2.2.2.1.2 0 (by decide)).1, oN_le (by omega) (by omega)]
    omega
  | n + 1, i, v, S, σ, hn, A, hb, hK => by
    have h120 := (hR 0).1
    refine S_X23_joined__15 A.fx ⟨kE_2129 (by omega), fun q => absurd q ?_, fun _ => ?_⟩
    · rw [(A.2.2.2.1.2 0 (by decide)).1, oN_le (by omega) (by omega)]
      omega
    · refine hE d nv 0 i j c R args l1 l2 l3 on S σ _ hd (by decide) (by omega) hR hc hj ha hav hG A hb (EvK.bn2 hK (fun e τ q => q) fun x S2 τ2 g2 K2 => ?_)
      have A2 : EvA W lst b wy ch fuel dp cn (fun σ => CcS σ (2981 + 8 * j) c R) on [] S2 τ2 := g2.a A (fun _ _ _ g h => CcS.ev hj g h) (Nat.zero_le _)
      have hb2 : S2.2.2.2.1 ≤ S2.1 := g2.2.2.2.2.2
      have go : ∀ v', EvK W lst b wy ch fuel dp cn nv on τ2 (jnR en (c, R) jn args on n (i + 1) v' S2 f) K → B_X23_joined__15 Z (d + 1) τ2 (2981 + 8 * j) (Int32.ofNat jn) l1 l2 l3 v' (Int32.ofNat i + 1) (yI K C) := fun v' h => by
        rw [oN_1]
        exact rf_join hE hd hR hc hj h48 ha hav hG hjn hC n (i + 1) v' S2 τ2 (by omega) A2 hb2 h
      have n1 : Int64.toInt32 x = nmV x := rfl
      have q1 : ∀ k, k ≤ 4 → (Int32.ofNat jn = Int32.ofNat k ↔ jn = k) := fun k hk => oN_eq (by omega) (by omega)
      have K2 : EvK W lst b wy ch fuel dp cn nv on τ2 (if jn = 1 then jnR en (c, R) jn args on n (i + 1) (v + nmV x) S2 f
        else if jn = 4 then jnR en (c, R) jn args on n (i + 1) (if i = 0 then nmV x else if nmV x < v then nmV x else v) S2 f
        else if jn = 2 ∧ nmV x = 0 then f 0 S2
        else if jn = 3 ∧ nmV x ≠ 0 then f 1 S2
        else jnR en (c, R) jn args on n (i + 1) v S2 f) K := K2
      rw [n1, show (1 : Int32) = Int32.ofNat 1 from rfl, show (4 : Int32) = Int32.ofNat 4 from rfl, show (2 : Int32) = Int32.ofNat 2 from rfl, show (0 : Int32) = Int32.ofNat 0 from rfl, q1 1 (by decide), q1 4 (by decide), q1 2 (by decide), oN_eq (a := i) (by omega) (by decide)]
      have p96 : jn ≠ 1 → jn ≠ 4 → ¬ (jn = 2 ∧ nmV x = 0) → B_X23_joined__96 Z (d + 1) τ2 (2981 + 8 * j) (Int32.ofNat jn) l1 l2 l3 v (Int32.ofNat i) (nmV x) (yI K C) := fun z1 z2 z3 => by
        rw [if_neg z1, if_neg z2, if_neg z3] at K2
        refine S_X23_joined__96 A2.fx (kE_2129 (by omega)) ?_
        rw [show (3 : Int32) = Int32.ofNat 3 from rfl, q1 3 (by decide)]
        refine ⟨fun z => ?_, fun z => ⟨fun z' => ?_, fun z' => ?_⟩⟩
        · rw [if_neg (fun y => z y.1)] at K2
          exact go v K2
        · rw [if_neg (fun y => y.2 z')] at K2
          exact go v K2
        · rw [if_pos ⟨z, z'⟩] at K2
          exact hC 1 S2 τ2 A2 hb2 K2
      refine ⟨fun z1 => ⟨fun z4 => ⟨fun z2 => ?_, fun z2 => ⟨fun z0 => ?_, fun z0 => ?_⟩⟩, fun z4 => ⟨fun z0 => ?_, fun z0 => ?_⟩⟩, fun z1 => ?_⟩
      · exact p96 z1 z4 (fun y => z2 y.1)
      · exact p96 z1 z4 (fun y => z0 y.2)
      · rw [if_neg z1, if_neg z4, if_pos ⟨z2, z0⟩] at K2
        exact hC 0 S2 τ2 A2 hb2 K2
      · rw [if_neg z1, if_pos z4, if_neg z0] at K2
        exact go _ K2
      · rw [if_neg z1, if_pos z4, if_pos z0] at K2
        exact go _ K2
      · rw [if_pos z1] at K2
        exact go _ K2
theorem rf_jn (hc : c < W.2.1.length) {σ : Sg} (H : NwS W lst b wy σ) : jnW W.2.1 c ≤ 4 ∧ σ.i (2409 + 3 * c) 2 = Int32.ofNat (jnW W.2.1 c) := by
  have e : W.2.1[c]? = some W.2.1[c] := List.getElem?_eq_getElem hc
  have := (H.2.1.2.1.2.2 c _ e).2.2.1
  unfold jnW
  rw [e]
  exact this
theorem rf_before (hE : EnH Z W lst b wy ch fuel dp cn D en) (hd : D ≤ d) (hR : RwG W c R) (hc : c < W.2.1.length) (hj : j < cn) (h48 : cn ≤ 47) (ha : args.length = plW W.2.1 c) (hav : ∀ x ∈ args, VlG W x) (hG : ArG args l1 l2 l3) (hmk : 1 ∈ mkW W.1) (h0 : jnW W.2.1 c = 0 → 0 < (R 0).1.length) (h2d : 2 ≤ d) : ∀ (n i : Nat) (S : Es) (σ : Sg), i + n = (R 2).1.length → EvA W lst b wy ch fuel dp cn (fun σ => CcS σ (2981 + 8 * j) c R) on [] S σ → S.2.2.2.1 ≤ S.1 → EvK W lst b wy ch fuel dp cn nv on σ (ruU en (c, R) 2 args on n i S fun S => if jnW W.2.1 c = 0 then bnR (en (c, R) 0 0 args on S) fun v S => ruD en (c, R) 3 args on (R 3).1.length S fun S => (.inl v, S) else jnR en (c, R) (jnW W.2.1 c) args on (R 0).1.length 0 (if jnW W.2.1 c = 2 then 1 else 0) S fun v S => ruD en (c, R) 3 args on (R 3).1.length S fun S => (.inl (vlX 1 v), S)) K → B_X23_inside_37 Z (d + 2) σ (2981 + 8 * j) l1 l2 l3 (Int32.ofNat (jnW W.2.1 c)) (Int32.ofNat i) K
  | 0, i, S, σ, hn, A, hb, hK => by
    have h120 := (hR 2).1
    have jb := (rf_jn hc A.1.1).1
    have hK : EvK W lst b wy ch fuel dp cn nv on σ (if jnW W.2.1 c = 0 then bnR (en (c, R) 0 0 args on S) fun v S => ruD en (c, R) 3 args on (R 3).1.length S fun S => (.inl v, S) else jnR en (c, R) (jnW W.2.1 c) args on (R 0).1.length 0 (if jnW W.2.1 c = 2 then 1 else 0) S fun v S => ruD en (c, R) 3 args on (R 3).1.length S fun S => (.inl (vlX 1 v), S)) K := hK
    refine S_X23_inside_37 A.fx (kE_2129 (by omega)) ⟨fun _ => ?_, fun q => absurd ?_ q⟩
    · rw [show (0 : Int32) = Int32.ofNat 0 from rfl, oN_eq (by omega) (by decide)]
      refine ⟨fun q => ?_, fun q => ?_⟩
      · rw [if_neg q] at hK
        obtain ⟨d, rfl⟩ : ∃ e, d = e + 1 := ⟨d - 1, by omega⟩
        have cont : ∀ v S τ, EvA W lst b wy ch fuel dp cn (fun σ => CcS σ (2981 + 8 * j) c R) on [] S τ → S.2.2.2.1 ≤ S.1 → EvK W lst b wy ch fuel dp cn nv on τ (ruD en (c, R) 3 args on (R 3).1.length S fun S => (.inl (vlX 1 v), S)) K → B_X23_value_0 Z (d + 1 + 1) τ 1 v (yL K fun v6 τ4 => B_X23_inside_118 Z (d + 1 + 1 + 1) τ4 (2981 + 8 * j) l1 l2 l3 v6 ((τ4.i (2981 + 8 * j + 6) 3) - (1 : Int32)) K) := fun v S2 τ A2 hb2 K2 => by
          refine rf_value A2.fx ?_
          show B_X23_inside_118 Z (d + 1 + 1 + 1) τ (2981 + 8 * j) l1 l2 l3 (vlX 1 v) ((τ.i (2981 + 8 * j + 6) 3) - (1 : Int32)) K
          rw [(A2.2.2.2.1.2 3 (by decide)).1]
          exact rf_behind (d := d + 1 + 1) hE (by omega) hR hc hj h48 ha hav hG ⟨1, v, rfl, hmk⟩ _ S2 τ (Nat.le_refl _) A2 hb2 K2
        refine S_X23_joined__0 A.fx ?_
        rw [show (2 : Int32) = Int32.ofNat 2 from rfl, oN_eq (by omega) (by decide)]
        refine ⟨fun z => ?_, fun z => ?_⟩
        · rw [if_neg z] at hK
          exact rf_join (d := d + 1) hE hd hR hc hj h48 ha hav hG jb cont (R 0).1.length 0 0 S σ (by omega) A hb hK
        · rw [if_pos z] at hK
          exact rf_join (d := d + 1) hE hd hR hc hj h48 ha hav hG jb cont (R 0).1.length 0 1 S σ (by omega) A hb hK
      · rw [if_pos q] at hK
        refine hE (d + 1) nv 0 0 j c R args l1 l2 l3 on S σ _ (by omega) (by decide) (h0 q) hR hc hj ha hav hG A hb (EvK.bn hK fun v2 S2 τ2 g2 K2 => ?_)
        have A2 : EvA W lst b wy ch fuel dp cn (fun σ => CcS σ (2981 + 8 * j) c R) on [] S2 τ2 := g2.a A (fun _ _ _ g h => CcS.ev hj g h) (Nat.zero_le _)
        rw [(A2.2.2.2.1.2 3 (by decide)).1]
        exact rf_behind (d := d + 1) hE (by omega) hR hc hj h48 ha hav hG g2.2.2.2.2.1 _ S2 τ2 (Nat.le_refl _) A2 g2.2.2.2.2.2 K2
    · rw [(A.2.2.2.1.2 2 (by decide)).1, oN_le (by omega) (by omega)]
      omega
  | n + 1, i, S, σ, hn, A, hb, hK => by
    have h120 := (hR 2).1
    refine S_X23_inside_37 A.fx (kE_2129 (by omega)) ⟨fun q => absurd q ?_, fun _ => ?_⟩
    · rw [(A.2.2.2.1.2 2 (by decide)).1, oN_le (by omega) (by omega)]
      omega
    · refine hE (d + 1) nv 2 i j c R args l1 l2 l3 on S σ _ (by omega) (by decide) (by omega) hR hc hj ha hav hG A hb (EvK.bn hK fun v2 S2 τ2 g2 K2 => ?_)
      have A2 : EvA W lst b wy ch fuel dp cn (fun σ => CcS σ (2981 + 8 * j) c R) on [] S2 τ2 := g2.a A (fun _ _ _ g h => CcS.ev hj g h) (Nat.zero_le _)
      rw [oN_1]
      exact rf_before hE hd hR hc hj h48 ha hav hG hmk h0 h2d n (i + 1) S2 τ2 (by omega) A2 g2.2.2.2.2.2 K2
theorem rf_inside (hE : EnH Z W lst b wy ch fuel dp cn D en) (hd : D ≤ d) (hR : RwG W c R) (hc : c < W.2.1.length) (hj : j < cn) (h48 : cn ≤ 47) (ha : args.length = plW W.2.1 c) (hav : ∀ x ∈ args, VlG W x) (hG : ArG args l1 l2 l3) (hmk : 1 ∈ mkW W.1 ∧ 2 ∈ mkW W.1) (h2d : 2 ≤ d) {S : Es} {σ : Sg} (A : EvA W lst b wy ch fuel dp cn (fun σ => CcS σ (2981 + 8 * j) c R) on [] S σ) (hb : S.2.2.2.1 ≤ S.1) (hK : EvK W lst b wy ch fuel dp cn nv on σ (inR W en (c, R) args on S) K) : B_X23_inside_0 Z (d + 2) σ (2981 + 8 * j) l1 l2 l3 K := by
  have h120 := (hR 0).1
  have hc24 := A.1.1.2.1.2.1.2.1
  obtain ⟨jb, je⟩ := rf_jn hc A.1.1
  have hK : EvK W lst b wy ch fuel dp cn nv on σ (if jnW W.2.1 c = 0 ∧ (R 0).1.length = 0 then faR 2 S
    else ruU en (c, R) 2 args on (R 2).1.length 0 S fun S => if jnW W.2.1 c = 0 then bnR (en (c, R) 0 0 args on S) fun v S => ruD en (c, R) 3 args on (R 3).1.length S fun S => (.inl v, S) else jnR en (c, R) (jnW W.2.1 c) args on (R 0).1.length 0 (if jnW W.2.1 c = 2 then 1 else 0) S fun v S => ruD en (c, R) 3 args on (R 3).1.length S fun S => (.inl (vlX 1 v), S)) K := hK
  refine S_X23_inside_0 A.fx ?_
  rw [A.2.2.2.1.1, oN_t (by omega), je, (A.2.2.2.1.2 0 (by decide)).1]
  refine ⟨kE_2129 (by omega), ib_oN (by omega) (by decide), ?_⟩
  rw [show (0 : Int32) = Int32.ofNat 0 from rfl, oN_eq (by omega) (by decide), oN_eq (by omega) (by decide)]
  refine ⟨fun q => ?_, fun q => ⟨fun q2 => ?_, fun q2 => ?_⟩⟩
  · rw [if_neg (fun z => q z.1)] at hK
    exact rf_before hE hd hR hc hj h48 ha hav hG hmk.1 (fun z => absurd z q) h2d _ 0 S σ (by omega) A hb hK
  · rw [if_neg (fun z => q2 z.2)] at hK
    exact rf_before hE hd hR hc hj h48 ha hav hG hmk.1 (fun _ => by omega) h2d _ 0 S σ (by omega) A hb hK
  · rw [if_pos ⟨q, q2⟩] at hK
    obtain ⟨d, rfl⟩ : ∃ e, d = e + 1 := ⟨d - 1, by omega⟩
    exact EvK.flt A hb hmk.2 hK
end INSIDE
section FURTHER
variable {Z : zT} {W : Wld} {lst : List Nat} {b wy ch fuel dp cn D : Nat} {en : Ef}
theorem rf_further (hW : RnW W) (hE : EnH Z W lst b wy ch fuel dp cn D en) (hcn : cn ≤ 47) {j c m i : Nat} {R : Nat → List Nat × Bool} (hj : j < cn) (hc : c < W.2.1.length) (hR : RwG W c R) (hm : 1 ≤ m ∧ m ≤ W.2.2.2.length) (hi : i < 2147483640) : FuH Z W lst b wy ch fuel dp cn (D + 5) (plW W.2.1 c) (fuR W en (c, R) (rlM W.2.2.2 m) i) (FrE dp (2981 + 8 * j) c m i R) := by
  intro d nv args l1 l2 l3 on vs S σ K hd hn ha hav hG A hb hK
  obtain ⟨d, rfl⟩ : ∃ e, d = e + 5 := ⟨d - 5, by omega⟩
  have hdp := A.2.1.1.2
  have h120 := A.1.1.2.2.1.2
  have hc24 := A.1.1.2.1.2.1.2.1
  obtain ⟨⟨f1, f2, f3⟩, f4⟩ := A.2.2.2.1
  have A' : EvA W lst b wy ch fuel dp cn (fun σ => CcS σ (2981 + 8 * j) c R) on [] S σ := ⟨A.1, A.2.1, fun i x hx => (by cases hx), f4, A.2.2.2.2⟩
  obtain ⟨-, er, er3⟩ := A.1.1.mt2 hW.1 hm.1 hm.2
  obtain ⟨jb, je⟩ := rf_jn hc A.1.1
  have hR0 := (hR 0).1
  have hR1 := (hR 1).1
  have hK : EvK W lst b wy ch fuel dp cn nv on σ (if rlM W.2.2.2 m = 1 then
    (if i + 1 < (R 1).1.length then en (c, R) 1 (i + 1) args on S else if (R 1).2 = true then faR 2 S else inR W en (c, R) args on S)
  else if rlM W.2.2.2 m ≠ 0 ∨ jnW W.2.1 c ≠ 0 then faR 1 S
  else if i + 1 < (R 0).1.length then en (c, R) 0 (i + 1) args on S
  else faR (if (R 0).2 = true then 2 else 1) S) K := hK
  refine S_X23_further_0 A.fx ?_
  rw [A.2.1.1.1, oN_t (by omega), f3, oN_1]
  refine ⟨ib_oN (by omega) (by decide), _, f2, ib_oN (by omega) (by decide), _, f1, kE_3 (by omega), ib_oN (by omega) (by decide), ?_⟩
  rw [er, show (1 : Int32) = Int32.ofNat 1 from rfl, show (0 : Int32) = Int32.ofNat 0 from rfl, oN_eq (by omega) (by decide), oN_eq (by omega) (by decide), f4.1, oN_t (by omega), je, oN_eq (by omega) (by decide), (f4.2 0 (by decide)).1, (f4.2 1 (by decide)).1, (f4.2 0 (by decide)).2.2, (f4.2 1 (by decide)).2.2, oN_le (by omega) (by omega), oN_le (by omega) (by omega)]
  have sv : ∀ bb : Bool, ((if bb = true then (1 : Int32) else 0) = Int32.ofNat 0) ↔ bb = false := by decide
  rw [sv, sv]
  refine ⟨fun q1 => ⟨fun q0 => ?_, fun q0 => ⟨kE_2129 (by omega), ib_oN (by omega) (by decide), fun qj => ⟨fun qn => ⟨fun qs => ?_, fun qs => ?_⟩, fun qn => ?_⟩, fun qj => ?_⟩⟩, fun q1 => ⟨kE_2129 (by omega), fun qn => ⟨fun qs => ?_, fun qs => ?_⟩, fun qn => ?_⟩⟩
  · rw [if_neg q1, if_pos (Or.inl q0)] at hK
    exact EvK.flt A hb hW.2.2.2.2 hK
  · rw [if_neg q1, if_neg (fun z => z.elim (fun y => y q0) (fun y => y qj)), if_neg (by omega), qs, if_neg (by decide)] at hK
    exact EvK.flt A hb hW.2.2.2.2 hK
  · rw [if_neg q1, if_neg (fun z => z.elim (fun y => y q0) (fun y => y qj)), if_neg (by omega), bl_T qs, if_pos rfl] at hK
    exact EvK.flt A hb hW.2.2.2.2 hK
  · rw [if_neg q1, if_neg (fun z => z.elim (fun y => y q0) (fun y => y qj)), if_pos (by omega)] at hK
    exact hE _ nv 0 (i + 1) j c R args l1 l2 l3 on S σ _ (by omega) (by decide) (by omega) hR hc hj ha hav hG A' hb hK.tl
  · rw [if_neg q1, if_pos (Or.inr qj)] at hK
    exact EvK.flt A hb hW.2.2.2.2 hK
  · rw [if_pos q1, if_neg (by omega), qs, if_neg (by decide)] at hK
    exact rf_inside (d := d + 2) hE (by omega) hR hc hj hcn ha hav hG hW.2.2.2 (by omega) A' hb hK.tl
  · rw [if_pos q1, if_neg (by omega), bl_T qs, if_pos rfl] at hK
    exact EvK.flt A hb hW.2.2.2.2 hK
  · rw [if_pos q1, if_pos (by omega)] at hK
    exact hE _ nv 1 (i + 1) j c R args l1 l2 l3 on S σ _ (by omega) (by decide) (by omega) hR hc hj ha hav hG A' hb hK.tl
end FURTHER

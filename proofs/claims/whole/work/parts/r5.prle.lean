/-! where the place that program() tells lies -/
section PRLE
variable {Z : zT} {d : Nat} {W : Wld} {pg : Ast} {t : Nat → Int32} {n m : Nat} {lst : List Nat} {cap m7 : Nat} {lst7 : List Nat} {cap7 : Nat} {σ : Sg} {K : kS}
/-- program(), and where what is wrong lies -/
theorem rf_programB (hZ : ZK Z) (hd : 90 ≤ d) (R : RefR W pg t n m lst cap m7 lst7 cap7 σ) (hu : 2 * n + 2 ≤ 23000)
    (h : ∀ τ m' lst' cap', RefR W (prR t n W).2.2 t 0 m lst cap m' lst' cap' τ → lst7.length ≤ lst'.length → RmW σ.sh τ.sh (lst'.length - lst7.length) cap7 cap' → τ.i 0 112 = Int32.ofNat (prR t n W).2.1 → τ.i 0 110 = 0 → KpP σ τ → (prR t n W).1 ≤ 8192 → K (.inl (some (.int (Int32.ofInt (prR t n W).1)))) τ) : B_X23_program_0 Z d σ K := by
  obtain ⟨d, rfl⟩ : ∃ e, d = e + 1 := ⟨d - 1, by omega⟩
  refine S_X23_program_0 R.fx ?_
  obtain ⟨σ1, hσ1⟩ : ∃ x, x = ((((((σ.wi 0 110 (0 : Int32)).wr 0 10 Rf.nul).wi 7 1 (0 : Int32)).wr 0 34 (Rf.ptr 7)).wi 0 33 (-1 : Int32)).wi 0 32 (0 : Int32)).wi 0 21 (0 : Int32) := ⟨_, rfl⟩
  rw [← hσ1]
  have hsh := sh_ge R.fx
  have ei1 : ∀ a, a ≠ 0 → a ≠ 7 → σ1.i a = σ.i a := fun a ha hb => by
    rw [hσ1, wi_row ha, wi_row ha, wi_row ha]
    show (((σ.wi 0 110 (0 : Int32)).wr 0 10 Rf.nul).wi 7 1 (0 : Int32)).i a = _
    rw [wi_row hb]
    show (σ.wi 0 110 (0 : Int32)).i a = _
    rw [wi_row ha]
  have e71 : ∀ k, k ≠ 1 → σ1.i 7 k = σ.i 7 k := fun k hk => by
    rw [hσ1, wi_ne (by omega), wi_ne (by omega), wi_ne (by omega)]
    show (((σ.wi 0 110 (0 : Int32)).wr 0 10 Rf.nul).wi 7 1 (0 : Int32)).i 7 k = _
    rw [wi_ne (by omega)]
    show (σ.wi 0 110 (0 : Int32)).i 7 k = _
    rw [wi_ne (by omega)]
  have e7 : σ1.i 7 1 = 0 := by
    rw [hσ1, wi_ne (by omega), wi_ne (by omega), wi_ne (by omega)]
    show (((σ.wi 0 110 (0 : Int32)).wr 0 10 Rf.nul).wi 7 1 (0 : Int32)).i 7 1 = _
    exact wi_at _ _ _ _
  have e01 : ∀ k, k ≠ 110 → k ≠ 33 → k ≠ 32 → k ≠ 21 → σ1.i 0 k = σ.i 0 k := fun k k1 k2 k3 k4 => by
    rw [hσ1, wi_ne (by omega), wi_ne (by omega), wi_ne (by omega)]
    show (((σ.wi 0 110 (0 : Int32)).wr 0 10 Rf.nul).wi 7 1 (0 : Int32)).i 0 k = _
    rw [wi_ne (by omega)]
    show (σ.wi 0 110 (0 : Int32)).i 0 k = _
    rw [wi_ne (by omega)]
  have e110 : σ1.i 0 110 = 0 := by
    rw [hσ1, wi_ne (by omega), wi_ne (by omega), wi_ne (by omega)]
    show (((σ.wi 0 110 (0 : Int32)).wr 0 10 Rf.nul).wi 7 1 (0 : Int32)).i 0 110 = _
    rw [wi_ne (by omega)]
    show (σ.wi 0 110 (0 : Int32)).i 0 110 = _
    exact wi_at _ _ _ _
  have e33 : σ1.i 0 33 = -1 := by
    rw [hσ1, wi_ne (by omega), wi_ne (by omega)]
    exact wi_at _ _ _ _
  have e32 : σ1.i 0 32 = 0 := by
    rw [hσ1, wi_ne (by omega)]
    exact wi_at _ _ _ _
  have e21 : σ1.i 0 21 = 0 := by
    rw [hσ1]
    exact wi_at _ _ _ _
  have er1 : σ1.sh = σ.sh ∧ σ1.l = σ.l := by rw [hσ1]; exact ⟨rfl, rfl⟩
  have rr1 : ∀ a k, ¬ (a = 0 ∧ (k = 10 ∨ k = 34)) → σ1.r a k = σ.r a k := fun a k hk => by
    rw [hσ1]
    show (((((σ.wi 0 110 (0 : Int32)).wr 0 10 Rf.nul).wi 7 1 (0 : Int32)).wr 0 34 (Rf.ptr 7))).r a k = _
    rw [wr_ne (by omega)]
    show ((σ.wi 0 110 (0 : Int32)).wr 0 10 Rf.nul).r a k = _
    rw [wr_ne (by omega)]
    rfl
  have r34 : σ1.r 0 34 = Rf.ptr 7 := by
    rw [hσ1]
    show (((((σ.wi 0 110 (0 : Int32)).wr 0 10 Rf.nul).wi 7 1 (0 : Int32)).wr 0 34 (Rf.ptr 7))).r 0 34 = _
    exact wr_at _ _ _ _
  have r10 : σ1.r 0 10 = Rf.nul := by
    rw [hσ1]
    show (((((σ.wi 0 110 (0 : Int32)).wr 0 10 Rf.nul).wi 7 1 (0 : Int32)).wr 0 34 (Rf.ptr 7))).r 0 10 = _
    rw [wr_ne (by decide)]
    show ((σ.wi 0 110 (0 : Int32)).wr 0 10 Rf.nul).r 0 10 = _
    exact wr_at _ _ _ _
  have rA1 : ∀ a, a ≠ 0 → σ1.r a = σ.r a := fun a ha => funext fun k => rr1 a k (fun z => ha z.1)
  have F1 : FX ΦR σ1.sh σ1.r := by
    have := FX.w (a := 0) (k := 34) (v := Rf.ptr 7) (FX.w (a := 0) (k := 10) (v := Rf.nul) R.fx (by decide +kernel)) (by decide +kernel)
    rw [hσ1]
    exact this
  obtain ⟨⟨t1, t2, t3, t4⟩, t5⟩ := R.tx
  have T1 : TX t n σ1 := ⟨t1, (e01 15 (by decide) (by decide) (by decide) (by decide)).trans t2, fun k hk => by rw [ei1 37 (by decide) (by decide)]; exact t3 k hk, t4⟩
  obtain ⟨L7, n1, n2, n3, n4⟩ := R.n7
  have hk24 := R.w3.1.2.1
  have hc24 := R.w3.2.1.2.1
  have hl8 := R.w3.2.2.2.1
  refine rf_start hZ (by omega) F1 T1 (fun τ Fτ G1 C1 e20 e23 e24 => ?_)
  have gi : ∀ a, a ≠ 0 → τ.i a = σ1.i a := fun a ha => funext fun k => G1.2.2.1 a k (fun q => ha q.1)
  have g0 : ∀ k, ¬ (k = 16 ∨ k = 17 ∨ k = 18 ∨ k = 19 ∨ k = 20 ∨ k = 23 ∨ k = 24 ∨ k = 26) → τ.i 0 k = σ1.i 0 k := fun k hk => G1.2.2.1 0 k (fun q => hk q.2)
  have gr : ∀ a, a ≠ 0 → τ.r a = σ1.r a := fun a ha => funext fun k => G1.2.2.2 a k (fun q => ha q.1)
  have W1 : W3 W.1 W.2.1 W.2.2.1 τ := R.w3.keep (fun a ha => (gi a (by omega)).trans (ei1 a (by omega) (by omega))) ((g0 4 (by decide)).trans (e01 4 (by decide) (by decide) (by decide) (by decide))) ((g0 5 (by decide)).trans (e01 5 (by decide) (by decide) (by decide) (by decide))) ((g0 7 (by decide)).trans (e01 7 (by decide) (by decide) (by decide) (by decide)))
  have hp0 := fi_le t n
  have S1 : RS t n 7 (enW W.1 W.2.1 W.2.2.1 (-1)) (σ1.i 0 27, σ1.i 0 22, Rf.ptr 7) τ (fiS t n) 0 0 [] [] 0 lst7 cap7 (2 * n) := by
    refine ⟨Fτ, ⟨t1, (g0 15 (by decide)).trans T1.2.1, fun k hk => by rw [gi 37 (by decide)]; exact T1.2.2.1 k hk, t4⟩, C1, W1.en (fun _ => ⟨(g0 33 (by decide)).trans e33, by decide, by omega⟩), ⟨(g0 32 (by decide)).trans e32, fun k q hq => by cases hq⟩, ⟨by decide, by decide⟩, e20, (g0 21 (by decide)).trans e21, ⟨⟨fun e he => (by cases he), ?_, e23, e24⟩, g0 22 (by decide)⟩, Or.inr rfl, (G1.2.2.2 0 34 (by decide)).trans r34, L7.mono (fun a s q => by rw [G1.1, er1.1]; exact q) (by rw [gi 8 (by decide), ei1 8 (by decide) (by decide)]) (by rw [gr 8 (by decide), rA1 8 (by decide)]) (fun b hb => ?_), by rw [gi 7 (by decide)]; exact e7, Nat.zero_le _, n3, n4, by omega, by omega⟩
    · show τ.i 0 27 = σ1.i 0 27 + Int32.ofNat 0
      rw [g0 27 (by decide)]
      exact (Int32.add_zero _).symm
    · have := oa_ge R.fx (L7.arr hb)
      rw [gr b (by omega), rA1 b (by omega)]
  have RG1 : ∀ {υ : Sg} {lst' : List Nat}, RG τ υ lst7 lst' → RG σ1 υ lst7 lst' := fun {υ lst'} g => by
    obtain ⟨y1, y2, y3, y4, y5, y6, y7⟩ := g
    have hle : τ.sh = σ1.sh := G1.1
    refine ⟨fun a s q => y1 a s (by rw [hle]; exact q), by rw [← hle]; exact y2, fun a a1 a2 a3 a4 a5 a6 => ?_, fun k hk => (y4 k hk).trans (g0 k (fun q => hk (by unfold rdK; omega))), by rw [y5, G1.2.1], fun k hk => (y6 k hk).trans (G1.2.2.2 0 k (fun q => hk q.2)), ?_⟩
    · obtain ⟨b1, b2, b3⟩ := y3 a (by rw [hle]; exact a1) a2 a3 a4 a5 a6
      exact ⟨b1.trans (gi a a2), by rw [b2, G1.2.1], fun z => (b3 (by rw [gr 8 (by decide)]; exact z)).trans (gr a a2)⟩
    · rw [← hle, ← gr 8 (by decide)]
      exact y7
  have hle1 : τ.sh = σ.sh := G1.1.trans er1.1
  -- from its end on
  have go99 : ∀ (υ : Sg) (lst' : List Nat) (cap' m' q : Nat) (r : Nat) (l2 : Rf), q ≤ 8192 → prR t n W = ((q : Int), r, .nil) → RG τ υ lst7 lst' → FX ΦR υ.sh υ.r → LsS υ 8 lst' cap' → υ.i 7 1 = Int32.ofNat m' → m' ≤ lst'.length ∧ lst'.length ≤ 23400 ∧ cap' ≤ 2 * lst'.length + 10 → RmW σ.sh υ.sh (lst'.length - lst7.length) cap7 cap' → B_X23_program_99 Z (d + 1) (υ.wi 0 112 (Int32.ofNat r)) (Int32.ofNat q) l2 K := by
    intro υ lst' cap' m' q r l2 hq htl G Fυ Lυ n7 hb hrm
    have c : 0 ≤ Int32.ofNat q := (oN_le (a := 0) (by omega) (by omega)).mpr (Nat.zero_le _)
    refine S_X23_program_99 Fυ ⟨fun _ => ?_, fun z => absurd c z⟩
    obtain ⟨ω, hω⟩ : ∃ x, x = (υ.wi 0 112 (Int32.ofNat r)).wi 0 15 (0 : Int32) := ⟨_, rfl⟩
    rw [← hω]
    have ws : ω.sh = υ.sh ∧ ω.l = υ.l ∧ ω.r = υ.r := by rw [hω]; exact ⟨rfl, rfl, rfl⟩
    have wa : ∀ a, a ≠ 0 → ω.i a = υ.i a := fun a ha => by rw [hω, wi_row ha, wi_row ha]
    have w0 : ∀ k, k ≠ 15 → k ≠ 112 → ω.i 0 k = υ.i 0 k := fun k k1 k2 => by rw [hω, wi_ne (by omega), wi_ne (by omega)]
    obtain ⟨R2, K2⟩ := R.prog (x := .nil) er1.1 er1.2 ei1 (fun k k1 k2 k3 => e01 k k3 k2 (fun z => k1 (by rw [z]; decide)) (fun z => k1 (by rw [z]; decide))) rA1 (fun k k1 k2 => rr1 0 k (by omega)) (RG1 G) Fυ Lυ n7 hb ws.1 ws.2.1 (fun a k _ => by rw [ws.2.2]) wa (by rw [hω, wi_at]) w0 (by rw [ws.1, ws.2.2]; exact Fυ) (by
      show ω.r 0 10 = Rf.nul
      rw [ws.2.2, (RG1 G).2.2.2.2.2.1 10 (by decide)]
      exact r10)
    rw [htl] at h
    refine h ω m' lst' cap' R2 (by obtain ⟨more, e, -⟩ := G.2.1; rw [e, List.length_append]; omega) (by rw [ws.1]; exact hrm) (by rw [hω, wi_ne (by decide), wi_at]) ?_ K2 (by show (q : Int) ≤ 8192; omega)
    rw [w0 110 (by decide) (by decide), (RG1 G).2.2.2.1 110 (by decide)]
    exact e110
  have wrg : ∀ (υ : Sg) (a q : Nat) (l2 : Rf), prR t n W = ((q : Int), 1, .nil) → WR n 7 0 τ lst7 0 cap7 υ a q → B_X23_program_88 Z (d + 1) υ l2 a K := by
    intro υ a q l2 htl wt
    obtain ⟨hq, Fυ, φ, m', lst', cap', G2, Fφ, Lφ, nφ, -, y0, y1, y2, ea, es', e6', hcell⟩ := wt
    have hsa : υ.sh[a]? = some (Sh.obj 23) := by
      rw [es', ea, List.getElem?_append_right (Nat.le_refl _), Nat.sub_self]
      rfl
    have hle : τ.sh.length ≤ φ.sh.length := by
      obtain ⟨⟨more, -, -, hR⟩, -⟩ := G2
      exact hR.len
    have hsl : τ.sh.length = σ.sh.length := by rw [hle1]
    have c8 := hcell 8 (by omega)
    have c7 := hcell 7 (by omega)
    have Lυ : LsS υ 8 lst' cap' := Lφ.mono (fun b s z => by rw [es', List.getElem?_append_left (List.getElem?_eq_some_iff.mp z).1]; exact z) (by rw [c8.1]) (by rw [c8.2.2]) (fun b hb => (hcell b (List.getElem?_eq_some_iff.mp (Lφ.arr hb)).1).2.2)
    have hrm : RmW σ.sh υ.sh (lst'.length - lst7.length) cap7 cap' := by
      obtain ⟨⟨more, q1, -, ext, q2, q3, q4⟩, -⟩ := G2
      have hm : lst'.length - lst7.length = more.length := by
        rw [q1, List.length_append]
        omega
      rw [hm]
      refine ⟨ext ++ [Sh.obj 23], by rw [es', q2, hle1, List.append_assoc], ?_, ?_⟩
      · rw [List.length_append]
        show ext.length + 1 ≤ _
        omega
      · rw [szS_app]
        have := szS_obj
        omega
    refine S_X23_program_88 Fυ ⟨hsa, ?_⟩
    rw [e6']
    exact go99 υ lst' cap' m' q 1 l2 (by omega) htl (G2.rg.more ⟨_, es'⟩ (by omega) hcell) Fυ Lυ (by rw [c7.1]; exact nφ) ⟨y0, y1, y2⟩ hrm
  have hbig : 20 + 4 * 12 ≤ d := by omega
  refine (fol_X (N := 7) (B := (σ1.i 0 27, σ1.i 0 22)) hZ (show (-1 : Int) ≠ 999 by decide) 12 0 d rfl hbig).1 τ (fiS t n) 0 [] [] 0 lst7 cap7 (2 * n) _ S1 hu (fun p' c' es' x hf υ m' lst' cap' r S2 G2 hm hp T2 hr => Or.inl ⟨r, rfl, ?_⟩) (fun q hf υ a wr => Or.inr ⟨_, rfl, ?_⟩)
  · have hf2 : pX t n (enW W.1 W.2.1 W.2.2.1 (-1)) 12 false [] (fiS t n) 0 = .inr (p', c', es', x) := hf
    have hcur := cur_end S2.cur
    refine ⟨fun z => ?_, fun z => ?_⟩
    · have hend := hcur.mp z
      obtain ⟨b1, b2, b3, b4, b5⟩ := S2.bd
      have hrm : RmW σ.sh υ.sh (lst'.length - lst7.length) cap7 cap' := by
        obtain ⟨⟨more, q1, -, ext, q2, q3, q4⟩, -⟩ := G2
        have hm : lst'.length - lst7.length = more.length := by
          rw [q1, List.length_append]
          omega
        rw [hm]
        exact ⟨ext, by rw [q2, hle1], by omega, by omega⟩
      obtain ⟨r1, -, r3⟩ := S2.rl
      rw [List.nil_append] at r1 r3
      cases hls : lsE es' with
      | none =>
        rw [hls] at r3
        have htl : prR t n W = (-1, 0, x) := by
          unfold prR
          rw [hf2]
          dsimp only
          rw [if_pos hend, hls]
        refine ⟨fun y => ?_, fun _ => ?_⟩
        · rw [r3.1] at y
          exact absurd y (by decide)
        · rw [r3.1]
          refine S_X23_program_82 S2.fx (S_X23_program_99 S2.fx ⟨fun y => absurd y (by decide), fun _ => ?_⟩)
          obtain ⟨ω, hω⟩ : ∃ y, y = ((υ.wi 0 112 (0 : Int32)).wi 0 15 (0 : Int32)).wr 0 10 r := ⟨_, rfl⟩
          rw [← hω]
          have ws : ω.sh = υ.sh ∧ ω.l = υ.l := by rw [hω]; exact ⟨rfl, rfl⟩
          have wr' : ∀ a k, ¬ (a = 0 ∧ k = 10) → ω.r a k = υ.r a k := fun a k hk => by rw [hω]; exact wr_ne hk
          have w10 : ω.r 0 10 = r := by rw [hω]; exact wr_at _ _ _ _
          have wi' : ω.i = ((υ.wi 0 112 (0 : Int32)).wi 0 15 (0 : Int32)).i := by rw [hω]; rfl
          have wa : ∀ a, a ≠ 0 → ω.i a = υ.i a := fun a ha => by rw [wi', wi_row ha, wi_row ha]
          have w0 : ∀ k, k ≠ 15 → k ≠ 112 → ω.i 0 k = υ.i 0 k := fun k k1 k2 => by rw [wi', wi_ne (by omega), wi_ne (by omega)]
          have Fω : FX ΦR ω.sh ω.r := by
            rw [hω]
            exact FX.w (a := 0) (k := 10) (v := r) S2.fx (by decide +kernel)
          have tr : TrN ω (Rg lst' 0 m') x (ω.r 0 10) := by
            rw [w10]
            refine TrN.mono (σ := υ) (τ := ω) (fun y hy hys => ⟨hy, by rw [ws.1]; exact hys, wa y ?_, by rw [ws.2], funext fun k => wr' y k ?_⟩) _ _ T2
            · have := nd_ge S2.fx hys
              omega
            · have := nd_ge S2.fx hys
              omega
          obtain ⟨R2, K2⟩ := R.prog (x := x) er1.1 er1.2 ei1 (fun k k1 k2 k3 => e01 k k3 k2 (fun z => k1 (by rw [z]; decide)) (fun z => k1 (by rw [z]; decide))) rA1 (fun k k1 k2 => rr1 0 k (by omega)) (RG1 G2.rg) S2.fx S2.ls S2.nm ⟨b1, b2, b3⟩ ws.1 ws.2 wr' wa (by rw [wi', wi_at]) w0 Fω tr
          rw [htl] at h
          refine h ω m' lst' cap' R2 (by obtain ⟨⟨more, e, -⟩, -⟩ := G2; rw [e, List.length_append]; omega) (by rw [ws.1]; exact hrm) (by rw [wi', wi_ne (by decide), wi_at]; rfl) ?_ K2 (by show (-1 : Int) ≤ 8192; decide)
          rw [w0 110 (by decide) (by decide), (RG1 G2.rg).2.2.2.1 110 (by decide)]
          exact e110
      | some w =>
        rw [hls] at r3
        have htl : prR t n W = ((w.1 : Int), w.2, .nil) := by
          unfold prR
          rw [hf2]
          dsimp only
          rw [if_pos hend, hls]
        have hw8 := r1 w (lsE_mem es' w hls)
        refine ⟨fun _ => ?_, fun y => ?_⟩
        · rw [r3.1, r3.2]
          exact S_X23_program_82 S2.fx (go99 υ lst' cap' m' w.1 w.2 r hw8.1 htl G2.rg S2.fx S2.ls S2.nm ⟨b1, b2, b3⟩ hrm)
        · rw [r3.1] at y
          exact absurd ((oN_le (a := 0) (by omega) (by omega)).mpr (Nat.zero_le _)) y
    · have hne : tyS t n p' ≠ 0 := fun y => z (hcur.mpr y)
      have htl : prR t n W = ((p' : Int), 1, .nil) := by
        unfold prR
        rw [hf2]
        dsimp only
        rw [if_neg hne]
      obtain ⟨d, rfl⟩ : ∃ e, d = e + 2 := ⟨d - 2, by omega⟩
      exact rf_no hZ (by omega) S2.fx fun φ a f1 f2 => ⟨_, wrg_aT f2, prog_catch (Or.inr (Or.inr (Or.inr rfl))) (wrg φ a p' r htl ((S2.wr f1 f2).tr (m0 := 0) G2 (fun _ z => z) (Nat.zero_le _) (Nat.le_refl _)))⟩
  · have htl : prR t n W = ((q : Int), 1, .nil) := by
      unfold prR
      rw [show pX t n (enW W.1 W.2.1 W.2.2.1 (-1)) 12 false [] (fiS t n) 0 = .inl q from hf]
    exact prog_catch (l2 := Rf.nul) (Or.inr (Or.inl rfl)) (wrg υ a q Rf.nul htl wr)
theorem pr_le (R : RefR W pg t n m lst cap m7 lst7 cap7 σ) : (prR t n W).1 ≤ 8192 := by
  have hn := R.tx.1.1
  have h := rf_programB (Z := ((some .null, some .null, some .null), (0, 0, fun _ => .int 0))) (K := fun _ _ => (prR t n W).1 ≤ 8192) (d := 90) ⟨.null, .null, .null, 0, fun _ => 0, rfl, Or.inl rfl, Or.inl rfl, Or.inl rfl⟩ (by decide) R (by omega) (fun _ _ _ _ _ _ _ _ _ _ hb => hb)
  obtain ⟨r, h', -, σ', -, -, k⟩ := h
  exact k
end PRLE

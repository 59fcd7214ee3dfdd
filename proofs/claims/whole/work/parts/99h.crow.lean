theorem c_row {pz : PZT} {d : Nat} {h : AH} {Q : Option Value → AH → Prop} (hd : 18 ≤ d) (x nr nw : Nat) (A M : PC) (fo y : Int32) (ps : List PC) (ns : List (Nat × Nat × Int32)) (cls : List (List (List (Nat × Nat) × List (Nat × Nat)))) (tp : List Int32) (im : Nat → Option TW) (q n w : Int32) (H : CW pz h x ((nr, nw, A, fo, y, M, ps, ns), cls, tp, im)) (ok : wsOk ((nr, nw, A, fo, y, M, ps, ns), cls, tp, im)) (k : ∀ h', CW pz h' x ((nr, nw, A, fo, y, M, ps, ns), cls, tp, im) → hN h' = hN h → hU h' = hU h → Q (some (.int (aRow nr nw A M (foR cls fo) q n w))) h') : Calls d nX11_row [.ref x, .int q, .int n, .int w] h (hN h) (hU h) Q := by
  obtain ⟨e, rfl⟩ : ∃ e, d = e + 1 := ⟨d - 1, by omega⟩
  obtain ⟨s0, p4, T0, HH, HM, b1, b2⟩ := H.un
  have p8 : hR h x 8 = x + 37 := H.1.2.2.2.2.2.2.2.2.2.1
  have bad : ¬ ((0 ≤ q ∧ q < nI nr) ∧ (1 ≤ n ∧ n ≤ 3) ∧ (0 ≤ w ∧ w ≤ 3)) → Q (some (.int (-3))) h := fun z => by
    have := k h H rfl rfl
    unfold aRow at this
    rwa [if_neg z] at this
  refine wX11_row (by omega) x q n w ?_
  simp only [rt_i, rt_b0, rt_b1, rt_v, rt_l, rt_o, rt_a, rV_none, rI_some, rL_some, rR_some, rT_some, rt_bI, hIf_sL, hIf_sR, hS_sI, hS_sL, hS_sR, hS_cpI, hR_sI, hR_sL, hR_cpI, hL_sI, hL_sR, hL_cpI, hI_sL, hI_sR, hN_sI, hN_sL, hN_sR, hN_cpI, hU_sI, hU_sL, hU_sR, hU_cpI, tn0, tn1, tn2, tn3, tn4, tn5, tn6, tn7, tn8, tn9, tn10, tn11, tn12, tn13, tn14, tn15, tn16, tn17, tn18, tn19, tn20, tn21, tn22, tn23, tn24, tn25, tn26, tn27, tn28, tn29, tn30, tn31, tn32, tn33, tn34, tn35, tn36, tn37, tn38, tn39, tn40, tn41, tn42, tn43, tn44, tn45, tn46, tn47, tn48, tn49, tn50, tn51, tn52, tn53, tn54, tn55, tn56, tn57, tn58, tn59, tn60, lH_eq, true_and, and_true, s0, p4, p8, twq_0 T0]
  refine sp_hasRunner (by omega) (x + 8) nr nw A q T0 HH ?_
  simp only [rI_some, bI0]
  refine ⟨fun z => ⟨trivial, trivial, bad (fun c => z c.1)⟩, fun z => ?_⟩
  have z := Decidable.not_not.mp z
  refine sp_isWithin (by omega) n 1 3 ?_
  simp only [rI_some, bI0]
  refine ⟨fun u => ⟨trivial, trivial, bad (fun c => u c.2.1)⟩, fun u => ?_⟩
  have u := Decidable.not_not.mp u
  refine sp_isWithin (by omega) w 0 3 ?_
  simp only [rI_some, bI0, s0, p4, p8, true_and]
  refine ⟨fun v => ?_, fun v => bad (fun c => v c.2.2)⟩
  have v := Decidable.not_not.mp v
  unfold aRow at k
  rw [if_pos ⟨z, u, v⟩] at k
  obtain ⟨r, hr, rfl⟩ := rn_of (by omega) z
  obtain ⟨n, hn1, hn2, rfl⟩ := rg1_of (n := 3) rfl (by decide) u
  obtain ⟨w, hw, rfl⟩ := rg_of (n := 3) rfl (by decide) v
  have h0 : (nI w = 0) = (w = 0) := nI_eq_iff (b := 0) (by omega) (by decide)
  simp only [nI_clamp (show r < 2 ^ 31 by omega), nI_clamp (show n < 2 ^ 31 by omega), nI_clamp (show w < 2 ^ 31 by omega), h0, nI_lt_iff (show n < 2 ^ 31 by omega) (show w < 2 ^ 31 by omega)] at k
  simp only [nI_le_iff (show w < 2 ^ 31 by omega) (show n < 2 ^ 31 by omega)]
  have hh := H.hill ok (Or.inl (by omega))
  refine ⟨fun t => ?_, fun t => ?_⟩
  · refine c_ask2 (by omega) x nr nw A M fo y ps ns cls tp im H ok hh.1 (fun ru h1 e1 e2 C1 F1 e8 => ?_)
    have p81 : hR h1 x 8 = x + 37 := C1.1.2.2.2.2.2.2.2.2.2.1
    simp only [rV_none, C1.1.2.1, p81, F1.1.1, true_and]
    refine sp_bestRow (by omega) (x + 37) (x + 8) _ ru nr nw r n A M _ w (D := 999) (by decide) hn2 hr t hh.2.1 hh.2.2 F1 (fun j hj => C1.scr.2.2.1.2.2 j hj) e8 (fun h2 f2 ho => ?_)
    have kk := k h2 (C1.gb f2 ho) (f2.2.2.1.trans e1) (f2.2.2.2.1.trans e2)
    rw [if_neg (show ¬ n < w by omega)] at kk
    simp only [rI_some, rt_i, rt_b0, rt_b1, rt_v, rt_l, rt_o, rt_a, rV_none, rI_some, rL_some, rR_some, rT_some, rt_bI, hIf_sL, hIf_sR, hS_sI, hS_sL, hS_sR, hS_cpI, hR_sI, hR_sL, hR_cpI, hL_sI, hL_sR, hL_cpI, hI_sL, hI_sR, hN_sI, hN_sL, hN_sR, hN_cpI, hU_sI, hU_sL, hU_sR, hU_cpI, tn0, tn1, tn2, tn3, tn4, tn5, tn6, tn7, tn8, tn9, tn10, tn11, tn12, tn13, tn14, tn15, tn16, tn17, tn18, tn19, tn20, tn21, tn22, tn23, tn24, tn25, tn26, tn27, tn28, tn29, tn30, tn31, tn32, tn33, tn34, tn35, tn36, tn37, tn38, tn39, tn40, tn41, tn42, tn43, tn44, tn45, tn46, tn47, tn48, tn49, tn50, tn51, tn52, tn53, tn54, tn55, tn56, tn57, tn58, tn59, tn60, lH_eq, true_and, and_true]
    exact ⟨f2.2.2.1.trans e1, f2.2.2.2.1.trans e2, kk⟩
  · have kk := k h H rfl rfl
    rw [if_neg (show ¬ w = 0 by omega), if_pos (show n < w by omega)] at kk
    exact kk

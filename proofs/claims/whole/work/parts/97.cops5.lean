theorem c_ware {pz : PZT} {d : Nat} {h : AH} {Q : Option Value → AH → Prop} (hd : 7 ≤ d) (x nr nw : Nat) (A M : PC) (fo y : Int32) (ps : List PC) (ns : List (Nat × Nat × Int32)) (cls : List (List (List (Nat × Nat) × List (Nat × Nat)))) (tp : List Int32) (im : Nat → Option TW) (q w : Int32) (H : CW pz h x ((nr, nw, A, fo, y, M, ps, ns), cls, tp, im)) (k : Q (some (.int (oWare nw A M q w))) h) : Calls d nX11_ware [.ref x, .int q, .int w] h (hN h) (hU h) Q := by
  obtain ⟨e, rfl⟩ : ∃ e, d = e + 1 := ⟨d - 1, by omega⟩
  obtain ⟨s0, p4, T0, HH, HM, b1, b2⟩ := H.un
  unfold oWare at k
  refine wX11_ware (by omega) x q w ?_
  simp only [rt_i, rt_b0, rt_b1, rt_v, rt_l, rt_o, rt_a, rV_none, rI_some, rL_some, rR_some, rT_some, rt_bI, hIf_sL, hIf_sR, hS_sI, hS_sL, hS_sR, hS_cpI, hR_sI, hR_sL, hR_cpI, hL_sI, hL_sR, hL_cpI, hI_sL, hI_sR, hN_sI, hN_sL, hN_sR, hN_cpI, hU_sI, hU_sL, hU_sR, hU_cpI, tn0, tn1, tn2, tn3, tn4, tn5, tn6, tn7, tn8, tn9, tn10, tn11, tn12, tn13, tn14, tn15, tn16, tn17, tn18, tn19, tn20, tn21, tn22, tn23, tn24, tn25, tn26, tn27, tn28, tn29, tn30, tn31, tn32, tn33, tn34, tn35, tn36, tn37, tn38, tn39, tn40, tn41, tn42, tn43, tn44, tn45, tn46, tn47, tn48, tn49, tn50, tn51, tn52, tn53, tn54, tn55, tn56, tn57, tn58, tn59, tn60, lH_eq, true_and, and_true, s0, p4, twq_0 T0]
  refine sp_hasWare (by omega) (x + 8) nr nw A q T0 HH ?_
  simp only [rI_some, bI0]
  refine ⟨fun z => ?_, fun z => ?_⟩
  · have z := Decidable.not_not.mp z
    rw [if_pos z] at k
    obtain ⟨r, hr, rfl⟩ := rn_of (by omega) z
    rw [nI_clamp (by omega)] at k
    rcases HH with ⟨-, -, c3, -⟩ | ⟨c1, c2⟩
    · omega
    have hh := c2.1
    have e := HM.2.1.2.2 r hr
    have e4 : hI h (x + 8 + 1 + 4) r = M 4 r := e.1
    have e5 : hI h (x + 8 + 1 + 5) r = M 5 r := e.2
    have a := c2.2.2.2.2.2.1.2 r hr
    have a4 : hI h (hR h (x + 8) 0 + 4) r = A 4 r := a.1
    have a5 : hI h (hR h (x + 8) 0 + 5) r = A 5 r := a.2
    have m0 : hI h (x + 8 + 1) 0 = M 0 0 := HM.2.1.1
    have hm := HM.1
    simp only [rt_i, rt_b0, rt_b1, rt_v, rt_l, rt_o, rt_a, rV_none, rI_some, rL_some, rR_some, rT_some, rt_bI, hIf_sL, hIf_sR, hS_sI, hS_sL, hS_sR, hS_cpI, hR_sI, hR_sL, hR_cpI, hL_sI, hL_sR, hL_cpI, hI_sL, hI_sR, hN_sI, hN_sL, hN_sR, hN_cpI, hU_sI, hU_sL, hU_sR, hU_cpI, tn0, tn1, tn2, tn3, tn4, tn5, tn6, tn7, tn8, tn9, tn10, tn11, tn12, tn13, tn14, tn15, tn16, tn17, tn18, tn19, tn20, tn21, tn22, tn23, tn24, tn25, tn26, tn27, tn28, tn29, tn30, tn31, tn32, tn33, tn34, tn35, tn36, tn37, tn38, tn39, tn40, tn41, tn42, tn43, tn44, tn45, tn46, tn47, tn48, tn49, tn50, tn51, tn52, tn53, tn54, tn55, tn56, tn57, tn58, tn59, tn60, lH_eq, true_and, and_true, s0, p4, twq_0 T0, twq_1 T0, moq_0 hm, moq_1 hm, moq_2 hm, moq_3 hm, moq_4 hm, moq_5 hm, moq_6 hm, moq_7 hm, moq_8 hm, moq_9 hm, moq_10 hm, hiq_0 hh, hiq_1 hh, hiq_2 hh, hiq_3 hh, hiq_4 hh, hiq_5 hh, hiq_6 hh, hiq_7 hh, hiq_8 hh, hiq_9 hh, hiq_10 hh, vp_in_nI (show r < 6 by omega) (show 6 < 2 ^ 31 by omega), nI_clamp (show r < 2 ^ 31 by omega), e4, e5, a4, a5, m0]
    refine ⟨fun u => ?_, fun u => ?_⟩
    · rwa [if_pos u] at k
    rw [if_neg u] at k
    refine ⟨fun u => ?_, fun u => ?_⟩
    · rwa [if_pos u] at k
    rw [if_neg u] at k
    refine ⟨fun u => ?_, fun u => ?_⟩
    · rwa [if_pos u] at k
    rw [if_neg u] at k
    refine ⟨fun u => ?_, fun u => ?_⟩
    · rw [if_pos u] at k
      refine sp_isThere (by omega) (hR h (x + 8) 0) r (M 0 0) hh (by omega) ?_
      simp only [rI_some, bI0, a5, rt_i, rt_b0, rt_b1, rt_v, rt_l, rt_o, rt_a, rV_none, rI_some, rL_some, rR_some, rT_some, rt_bI, hIf_sL, hIf_sR, hS_sI, hS_sL, hS_sR, hS_cpI, hR_sI, hR_sL, hR_cpI, hL_sI, hL_sR, hL_cpI, hI_sL, hI_sR, hN_sI, hN_sL, hN_sR, hN_cpI, hU_sI, hU_sL, hU_sR, hU_cpI, tn0, tn1, tn2, tn3, tn4, tn5, tn6, tn7, tn8, tn9, tn10, tn11, tn12, tn13, tn14, tn15, tn16, tn17, tn18, tn19, tn20, tn21, tn22, tn23, tn24, tn25, tn26, tn27, tn28, tn29, tn30, tn31, tn32, tn33, tn34, tn35, tn36, tn37, tn38, tn39, tn40, tn41, tn42, tn43, tn44, tn45, tn46, tn47, tn48, tn49, tn50, tn51, tn52, tn53, tn54, tn55, tn56, tn57, tn58, tn59, tn60, lH_eq, true_and, and_true, ← thB_t]
      refine ⟨fun v => ?_, fun v => ?_⟩
      · rwa [if_neg v] at k
      · rwa [if_pos (Decidable.not_not.mp v)] at k
    rw [if_neg u] at k
    refine ⟨fun u => ?_, fun u => ?_⟩
    · rwa [if_pos u] at k
    rwa [if_neg u] at k
  · rw [if_neg z] at k
    exact ⟨trivial, trivial, k⟩
theorem c_rings {pz : PZT} {d : Nat} {h : AH} {Q : Option Value → AH → Prop} (hd : 8 ≤ d) (x nr nw : Nat) (A M : PC) (fo y : Int32) (ps : List PC) (ns : List (Nat × Nat × Int32)) (cls : List (List (List (Nat × Nat) × List (Nat × Nat)))) (tp : List Int32) (im : Nat → Option TW) (w : Int32) (H : CW pz h x ((nr, nw, A, fo, y, M, ps, ns), cls, tp, im)) (k : Q (some (.int (aRings nr A M w))) h) : Calls d nX11_rings [.ref x, .int w] h (hN h) (hU h) Q := by
  obtain ⟨e, rfl⟩ : ∃ e, d = e + 1 := ⟨d - 1, by omega⟩
  obtain ⟨s0, p4, T0, HH, HM, b1, b2⟩ := H.un
  have p10 : hR h x 10 = x + 99 := H.1.2.2.2.2.2.2.2.2.2.2.2
  obtain ⟨q1, q2, q3, q4⟩ := H.2.2.2.2.2.1.2.2.2.2
  have hm := HM.1
  unfold aRings at k
  refine wX11_rings (by omega) x w ?_
  simp only [rt_i, rt_b0, rt_b1, rt_v, rt_l, rt_o, rt_a, rV_none, rI_some, rL_some, rR_some, rT_some, rt_bI, hIf_sL, hIf_sR, hS_sI, hS_sL, hS_sR, hS_cpI, hR_sI, hR_sL, hR_cpI, hL_sI, hL_sR, hL_cpI, hI_sL, hI_sR, hN_sI, hN_sL, hN_sR, hN_cpI, hU_sI, hU_sL, hU_sR, hU_cpI, tn0, tn1, tn2, tn3, tn4, tn5, tn6, tn7, tn8, tn9, tn10, tn11, tn12, tn13, tn14, tn15, tn16, tn17, tn18, tn19, tn20, tn21, tn22, tn23, tn24, tn25, tn26, tn27, tn28, tn29, tn30, tn31, tn32, tn33, tn34, tn35, tn36, tn37, tn38, tn39, tn40, tn41, tn42, tn43, tn44, tn45, tn46, tn47, tn48, tn49, tn50, tn51, tn52, tn53, tn54, tn55, tn56, tn57, tn58, tn59, tn60, lH_eq, true_and, and_true, s0, p4, twq_0 T0]
  refine ⟨fun z => ?_, fun z => ?_⟩
  · have c4 : A 0 0 = 0 := by
      rcases HH with ⟨-, -, -, c4⟩ | ⟨c1, -⟩
      · exact c4
      · exact absurd z c1
    rw [if_neg (fun c => by rw [c4] at c; exact absurd c.1 (by decide))] at k
    exact k
  · rcases HH with ⟨c1, -⟩ | ⟨c1, c2⟩
    · exact absurd c1 z
    have hp : 0 < A 0 0 := (H.2.1.2.1 z).2
    refine sp_isWithin (by omega) w 0 1 ?_
    simp only [rI_some, bI0, rt_i, rt_b0, rt_b1, rt_v, rt_l, rt_o, rt_a, rV_none, rI_some, rL_some, rR_some, rT_some, rt_bI, hIf_sL, hIf_sR, hS_sI, hS_sL, hS_sR, hS_cpI, hR_sI, hR_sL, hR_cpI, hL_sI, hL_sR, hL_cpI, hI_sL, hI_sR, hN_sI, hN_sL, hN_sR, hN_cpI, hU_sI, hU_sL, hU_sR, hU_cpI, tn0, tn1, tn2, tn3, tn4, tn5, tn6, tn7, tn8, tn9, tn10, tn11, tn12, tn13, tn14, tn15, tn16, tn17, tn18, tn19, tn20, tn21, tn22, tn23, tn24, tn25, tn26, tn27, tn28, tn29, tn30, tn31, tn32, tn33, tn34, tn35, tn36, tn37, tn38, tn39, tn40, tn41, tn42, tn43, tn44, tn45, tn46, tn47, tn48, tn49, tn50, tn51, tn52, tn53, tn54, tn55, tn56, tn57, tn58, tn59, tn60, lH_eq, true_and, and_true, s0, p4, p10, twq_0 T0, twq_1 T0, moq_0 hm, moq_1 hm, moq_2 hm, moq_3 hm, moq_4 hm, moq_5 hm, moq_6 hm, moq_7 hm, moq_8 hm, moq_9 hm, moq_10 hm, q1, c2.1.1, c2.2.1]
    refine ⟨fun u => ⟨fun v => ?_, fun v => ?_⟩, fun u => ?_⟩
    · rw [if_pos ⟨hp, Decidable.not_not.mp u⟩, if_neg v] at k
      refine sp_greatestRing (by omega) (x + 99) (x + 8 + 1 + 2) nr (M 2) hm.2.2.2.2.2.2.2.1 b1 (fun j hj => (HM.2.1.2.1 j hj).2.1) ?_
      simp only [rI_some, rt_i, rt_b0, rt_b1, rt_v, rt_l, rt_o, rt_a, rV_none, rI_some, rL_some, rR_some, rT_some, rt_bI, hIf_sL, hIf_sR, hS_sI, hS_sL, hS_sR, hS_cpI, hR_sI, hR_sL, hR_cpI, hL_sI, hL_sR, hL_cpI, hI_sL, hI_sR, hN_sI, hN_sL, hN_sR, hN_cpI, hU_sI, hU_sL, hU_sR, hU_cpI, tn0, tn1, tn2, tn3, tn4, tn5, tn6, tn7, tn8, tn9, tn10, tn11, tn12, tn13, tn14, tn15, tn16, tn17, tn18, tn19, tn20, tn21, tn22, tn23, tn24, tn25, tn26, tn27, tn28, tn29, tn30, tn31, tn32, tn33, tn34, tn35, tn36, tn37, tn38, tn39, tn40, tn41, tn42, tn43, tn44, tn45, tn46, tn47, tn48, tn49, tn50, tn51, tn52, tn53, tn54, tn55, tn56, tn57, tn58, tn59, tn60, lH_eq, true_and, and_true]
      exact k
    · rw [if_pos ⟨hp, Decidable.not_not.mp u⟩, if_pos v] at k
      refine sp_countRings (by omega) (x + 99) (x + 8 + 1 + 2) nr (M 2) hm.2.2.2.2.2.2.2.1 b1 (fun j hj => (HM.2.1.2.1 j hj).2.1) ?_
      simp only [rI_some, rt_i, rt_b0, rt_b1, rt_v, rt_l, rt_o, rt_a, rV_none, rI_some, rL_some, rR_some, rT_some, rt_bI, hIf_sL, hIf_sR, hS_sI, hS_sL, hS_sR, hS_cpI, hR_sI, hR_sL, hR_cpI, hL_sI, hL_sR, hL_cpI, hI_sL, hI_sR, hN_sI, hN_sL, hN_sR, hN_cpI, hU_sI, hU_sL, hU_sR, hU_cpI, tn0, tn1, tn2, tn3, tn4, tn5, tn6, tn7, tn8, tn9, tn10, tn11, tn12, tn13, tn14, tn15, tn16, tn17, tn18, tn19, tn20, tn21, tn22, tn23, tn24, tn25, tn26, tn27, tn28, tn29, tn30, tn31, tn32, tn33, tn34, tn35, tn36, tn37, tn38, tn39, tn40, tn41, tn42, tn43, tn44, tn45, tn46, tn47, tn48, tn49, tn50, tn51, tn52, tn53, tn54, tn55, tn56, tn57, tn58, tn59, tn60, lH_eq, true_and, and_true]
      exact k
    · rwa [if_neg (fun c => u c.2)] at k
theorem c_pence {pz : PZT} {d : Nat} {h : AH} {Q : Option Value → AH → Prop} (hd : 7 ≤ d) (x nr nw : Nat) (A M : PC) (fo y : Int32) (ps : List PC) (ns : List (Nat × Nat × Int32)) (cls : List (List (List (Nat × Nat) × List (Nat × Nat)))) (tp : List Int32) (im : Nat → Option TW) (mu q : Int32) (H : CW pz h x ((nr, nw, A, fo, y, M, ps, ns), cls, tp, im)) (k : Q (some (.int (aPence nr M mu q))) h) : Calls d nX11_pence [.ref x, .int mu, .int q] h (hN h) (hU h) Q := by
  obtain ⟨e, rfl⟩ : ∃ e, d = e + 1 := ⟨d - 1, by omega⟩
  obtain ⟨s0, p4, T0, HH, HM, b1, b2⟩ := H.un
  have p10 : hR h x 10 = x + 99 := H.1.2.2.2.2.2.2.2.2.2.2.2
  obtain ⟨q1, q2, q3, q4⟩ := H.2.2.2.2.2.1.2.2.2.2
  have hm := HM.1
  unfold aPence at k
  refine wX11_pence (by omega) x mu q ?_
  simp only [rt_i, rt_b0, rt_b1, rt_v, rt_l, rt_o, rt_a, rV_none, rI_some, rL_some, rR_some, rT_some, rt_bI, hIf_sL, hIf_sR, hS_sI, hS_sL, hS_sR, hS_cpI, hR_sI, hR_sL, hR_cpI, hL_sI, hL_sR, hL_cpI, hI_sL, hI_sR, hN_sI, hN_sL, hN_sR, hN_cpI, hU_sI, hU_sL, hU_sR, hU_cpI, tn0, tn1, tn2, tn3, tn4, tn5, tn6, tn7, tn8, tn9, tn10, tn11, tn12, tn13, tn14, tn15, tn16, tn17, tn18, tn19, tn20, tn21, tn22, tn23, tn24, tn25, tn26, tn27, tn28, tn29, tn30, tn31, tn32, tn33, tn34, tn35, tn36, tn37, tn38, tn39, tn40, tn41, tn42, tn43, tn44, tn45, tn46, tn47, tn48, tn49, tn50, tn51, tn52, tn53, tn54, tn55, tn56, tn57, tn58, tn59, tn60, lH_eq, true_and, and_true, s0, p4, twq_0 T0]
  refine sp_hasRunner (by omega) (x + 8) nr nw A q T0 HH ?_
  simp only [rI_some, bI0]
  refine ⟨fun z => ?_, fun z => ?_⟩
  · rw [if_neg (fun c => z c.1)] at k
    exact ⟨trivial, trivial, k⟩
  have z := Decidable.not_not.mp z
  refine sp_isWithin (by omega) mu 0 9999 ?_
  obtain ⟨r, hr, rfl⟩ := rn_of (by omega) z
  rw [nI_clamp (by omega)] at k
  rcases HH with ⟨-, c2, -⟩ | ⟨c1, c2⟩
  · omega
  simp only [rI_some, bI0, rt_i, rt_b0, rt_b1, rt_v, rt_l, rt_o, rt_a, rV_none, rI_some, rL_some, rR_some, rT_some, rt_bI, hIf_sL, hIf_sR, hS_sI, hS_sL, hS_sR, hS_cpI, hR_sI, hR_sL, hR_cpI, hL_sI, hL_sR, hL_cpI, hI_sL, hI_sR, hN_sI, hN_sL, hN_sR, hN_cpI, hU_sI, hU_sL, hU_sR, hU_cpI, tn0, tn1, tn2, tn3, tn4, tn5, tn6, tn7, tn8, tn9, tn10, tn11, tn12, tn13, tn14, tn15, tn16, tn17, tn18, tn19, tn20, tn21, tn22, tn23, tn24, tn25, tn26, tn27, tn28, tn29, tn30, tn31, tn32, tn33, tn34, tn35, tn36, tn37, tn38, tn39, tn40, tn41, tn42, tn43, tn44, tn45, tn46, tn47, tn48, tn49, tn50, tn51, tn52, tn53, tn54, tn55, tn56, tn57, tn58, tn59, tn60, lH_eq, true_and, and_true, s0, p4, p10, twq_0 T0, twq_1 T0, moq_0 hm, moq_1 hm, moq_2 hm, moq_3 hm, moq_4 hm, moq_5 hm, moq_6 hm, moq_7 hm, moq_8 hm, moq_9 hm, moq_10 hm, q1, c2.1.1, c2.2.1]
  refine ⟨fun u => ?_, fun u => ?_⟩
  · rw [if_pos ⟨z, Decidable.not_not.mp u⟩] at k
    refine sp_share (by omega) (x + 99) (x + 8 + 1 + 3) nr r (M 3) mu hm.2.2.2.2.2.2.2.2.1 b1 hr (fun j hj => (HM.2.1.2.1 j hj).2.2) ?_
    simp only [rI_some, rt_i, rt_b0, rt_b1, rt_v, rt_l, rt_o, rt_a, rV_none, rI_some, rL_some, rR_some, rT_some, rt_bI, hIf_sL, hIf_sR, hS_sI, hS_sL, hS_sR, hS_cpI, hR_sI, hR_sL, hR_cpI, hL_sI, hL_sR, hL_cpI, hI_sL, hI_sR, hN_sI, hN_sL, hN_sR, hN_cpI, hU_sI, hU_sL, hU_sR, hU_cpI, tn0, tn1, tn2, tn3, tn4, tn5, tn6, tn7, tn8, tn9, tn10, tn11, tn12, tn13, tn14, tn15, tn16, tn17, tn18, tn19, tn20, tn21, tn22, tn23, tn24, tn25, tn26, tn27, tn28, tn29, tn30, tn31, tn32, tn33, tn34, tn35, tn36, tn37, tn38, tn39, tn40, tn41, tn42, tn43, tn44, tn45, tn46, tn47, tn48, tn49, tn50, tn51, tn52, tn53, tn54, tn55, tn56, tn57, tn58, tn59, tn60, lH_eq, true_and, and_true]
    exact k
  · rwa [if_neg (fun c => u c.2)] at k

/-- what a question finds in the class -/
theorem CW.un {pz : PZT} {h : AH} {x nr nw : Nat} {A M : PC} {fo y : Int32} {ps : List PC} {ns : List (Nat × Nat × Int32)} {cls : List (List (List (Nat × Nat) × List (Nat × Nat)))} {tp : List Int32} {im : Nat → Option TW} (H : CW pz h x ((nr, nw, A, fo, y, M, ps, ns), cls, tp, im)) : hS h x = (21, 11) ∧ hR h x 4 = x + 8 ∧ TwnAt h (x + 8) ∧ HilO h (hR h (x + 8) 0) nr nw A ∧ MomIs h (x + 8 + 1) nr nw M ∧ nr ≤ 5 ∧ nw ≤ 6 := ⟨H.1.2.1, H.1.2.2.2.2.2.1, H.2.1.1.1, H.2.1.1.2.2.1, H.2.1.1.2.2.2.2.1, H.2.1.1.2.1.1, H.2.1.1.2.1.2.1⟩
theorem c_runner {pz : PZT} {d : Nat} {h : AH} {Q : Option Value → AH → Prop} (hd : 7 ≤ d) (x nr nw : Nat) (A M : PC) (fo y : Int32) (ps : List PC) (ns : List (Nat × Nat × Int32)) (cls : List (List (List (Nat × Nat) × List (Nat × Nat)))) (tp : List Int32) (im : Nat → Option TW) (q w : Int32) (H : CW pz h x ((nr, nw, A, fo, y, M, ps, ns), cls, tp, im)) (k : Q (some (.int (oRunner nr M q w))) h) : Calls d nX11_runner [.ref x, .int q, .int w] h (hN h) (hU h) Q := by
  obtain ⟨e, rfl⟩ : ∃ e, d = e + 1 := ⟨d - 1, by omega⟩
  obtain ⟨s0, p4, T0, HH, HM, b1, b2⟩ := H.un
  unfold oRunner at k
  refine wX11_runner (by omega) x q w ?_
  simp only [rt_i, rt_b0, rt_b1, rt_v, rt_l, rt_o, rt_a, rV_none, rI_some, rL_some, rR_some, rT_some, rt_bI, hIf_sL, hIf_sR, hS_sI, hS_sL, hS_sR, hS_cpI, hR_sI, hR_sL, hR_cpI, hL_sI, hL_sR, hL_cpI, hI_sL, hI_sR, hN_sI, hN_sL, hN_sR, hN_cpI, hU_sI, hU_sL, hU_sR, hU_cpI, tn0, tn1, tn2, tn3, tn4, tn5, tn6, tn7, tn8, tn9, tn10, tn11, tn12, tn13, tn14, tn15, tn16, tn17, tn18, tn19, tn20, tn21, tn22, tn23, tn24, tn25, tn26, tn27, tn28, tn29, tn30, tn31, tn32, tn33, tn34, tn35, tn36, tn37, tn38, tn39, tn40, tn41, tn42, tn43, tn44, tn45, tn46, tn47, tn48, tn49, tn50, tn51, tn52, tn53, tn54, tn55, tn56, tn57, tn58, tn59, tn60, lH_eq, true_and, and_true, s0, p4, twq_0 T0]
  refine sp_hasRunner (by omega) (x + 8) nr nw A q T0 HH ?_
  simp only [rI_some, bI0]
  refine ⟨fun z => ?_, fun z => ?_⟩
  · have z := Decidable.not_not.mp z
    obtain ⟨r, hr, rfl⟩ := rn_of (by omega) z
    have e := HM.2.1.2.1 r hr
    have e1 : hI h (x + 8 + 1 + 1) r = M 1 r := e.1
    have e2 : hI h (x + 8 + 1 + 2) r = M 2 r := e.2.1
    have e3 : hI h (x + 8 + 1 + 3) r = M 3 r := e.2.2
    have hm := HM.1
    simp only [nI_clamp (show r < 2 ^ 31 by omega)] at k
    simp only [rt_i, rt_b0, rt_b1, rt_v, rt_l, rt_o, rt_a, rV_none, rI_some, rL_some, rR_some, rT_some, rt_bI, hIf_sL, hIf_sR, hS_sI, hS_sL, hS_sR, hS_cpI, hR_sI, hR_sL, hR_cpI, hL_sI, hL_sR, hL_cpI, hI_sL, hI_sR, hN_sI, hN_sL, hN_sR, hN_cpI, hU_sI, hU_sL, hU_sR, hU_cpI, tn0, tn1, tn2, tn3, tn4, tn5, tn6, tn7, tn8, tn9, tn10, tn11, tn12, tn13, tn14, tn15, tn16, tn17, tn18, tn19, tn20, tn21, tn22, tn23, tn24, tn25, tn26, tn27, tn28, tn29, tn30, tn31, tn32, tn33, tn34, tn35, tn36, tn37, tn38, tn39, tn40, tn41, tn42, tn43, tn44, tn45, tn46, tn47, tn48, tn49, tn50, tn51, tn52, tn53, tn54, tn55, tn56, tn57, tn58, tn59, tn60, lH_eq, true_and, and_true, s0, p4, twq_0 T0, twq_1 T0, moq_0 hm, moq_1 hm, moq_2 hm, moq_3 hm, moq_4 hm, moq_5 hm, moq_6 hm, moq_7 hm, moq_8 hm, moq_9 hm, moq_10 hm, vp_in_nI (show r < 5 by omega) (show 5 < 2 ^ 31 by omega), nI_clamp (show r < 2 ^ 31 by omega), e1, e2, e3]
    have z2 : ∀ v : Int32, v = 0 ∨ v = 1 ∨ v = 2 → 0 ≤ v ∧ v ≤ 2 := fun v hv => by rcases hv with rfl | rfl | rfl <;> decide
    refine ⟨fun u => ?_, fun u => ⟨fun v => ?_, fun v => ⟨fun t => ?_, fun t => ?_⟩⟩⟩
    · rwa [if_pos ⟨z, z2 w (Or.inl u)⟩, if_pos u] at k
    · rwa [if_pos ⟨z, z2 w (Or.inr (Or.inl v))⟩, if_neg u, if_pos v] at k
    · rwa [if_pos ⟨z, z2 w (Or.inr (Or.inr t))⟩, if_neg u, if_neg v] at k
    · rw [if_neg (fun c => ?_)] at k
      · exact k
      · obtain ⟨j, hj, rfl⟩ := rg_of (n := 2) rfl (by decide) c.2
        have : j = 0 ∨ j = 1 ∨ j = 2 := by omega
        rcases this with rfl | rfl | rfl
        · exact u rfl
        · exact v rfl
        · exact t rfl
  · rw [if_neg (fun c => z c.1)] at k
    exact ⟨trivial, trivial, k⟩
theorem c_settle {pz : PZT} {d : Nat} {h : AH} {Q : Option Value → AH → Prop} (hd : 8 ≤ d) (x nr nw : Nat) (A M : PC) (fo y : Int32) (ps : List PC) (ns : List (Nat × Nat × Int32)) (cls : List (List (List (Nat × Nat) × List (Nat × Nat)))) (tp : List Int32) (im : Nat → Option TW) (H : CW pz h x ((nr, nw, A, fo, y, M, ps, ns), cls, tp, im)) (k : ∀ h', Fr' h h' (fun c => c = x + 100) → CW pz h' x ((nr, nw, A, fo, y, M, ps, ns), cls, tp, im) → Q (some (.int (aSettle nr A M))) h') : Calls d nX11_settle [.ref x] h (hN h) (hU h) Q := by
  obtain ⟨e, rfl⟩ : ∃ e, d = e + 1 := ⟨d - 1, by omega⟩
  obtain ⟨s0, p4, T0, HH, HM, b1, b2⟩ := H.un
  have p10 : hR h x 10 = x + 99 := H.1.2.2.2.2.2.2.2.2.2.2.2
  have hsc := H.2.2.2.2.2.1
  obtain ⟨q1, q2, q3, q4⟩ := hsc.2.2.2.2
  have hm := HM.1
  unfold aSettle at k
  refine wX11_settle (by omega) x ?_
  simp only [rt_i, rt_b0, rt_b1, rt_v, rt_l, rt_o, rt_a, rV_none, rI_some, rL_some, rR_some, rT_some, rt_bI, hIf_sL, hIf_sR, hS_sI, hS_sL, hS_sR, hS_cpI, hR_sI, hR_sL, hR_cpI, hL_sI, hL_sR, hL_cpI, hI_sL, hI_sR, hN_sI, hN_sL, hN_sR, hN_cpI, hU_sI, hU_sL, hU_sR, hU_cpI, tn0, tn1, tn2, tn3, tn4, tn5, tn6, tn7, tn8, tn9, tn10, tn11, tn12, tn13, tn14, tn15, tn16, tn17, tn18, tn19, tn20, tn21, tn22, tn23, tn24, tn25, tn26, tn27, tn28, tn29, tn30, tn31, tn32, tn33, tn34, tn35, tn36, tn37, tn38, tn39, tn40, tn41, tn42, tn43, tn44, tn45, tn46, tn47, tn48, tn49, tn50, tn51, tn52, tn53, tn54, tn55, tn56, tn57, tn58, tn59, tn60, lH_eq, true_and, and_true, s0, p4, p10, twq_0 T0, twq_1 T0, moq_0 hm, moq_1 hm, moq_2 hm, moq_3 hm, moq_4 hm, moq_5 hm, moq_6 hm, moq_7 hm, moq_8 hm, moq_9 hm, moq_10 hm, q1]
  refine ⟨fun z => ?_, fun z => ?_⟩
  · rcases HH with ⟨c1, -⟩ | ⟨c1, c2⟩
    · exact absurd c1 z
    have hp : 0 < A 0 0 := (H.2.1.2.1 z).2
    rw [if_pos hp] at k
    simp only [c2.1.1, c2.2.1]
    refine ⟨by decide, ?_⟩
    refine sp_fewestGoes (by omega) (x + 99) (x + 8 + 1 + 2) nr (M 2) b1 (by omega) q1 q2 q3 q4 hm.2.2.2.2.2.2.2.1 (fun j hj => (HM.2.1.2.1 j hj).2.1) (fun h' f e0 => ?_)
    simp only [rI_some, rt_i, rt_b0, rt_b1, rt_v, rt_l, rt_o, rt_a, rV_none, rI_some, rL_some, rR_some, rT_some, rt_bI, hIf_sL, hIf_sR, hS_sI, hS_sL, hS_sR, hS_cpI, hR_sI, hR_sL, hR_cpI, hL_sI, hL_sR, hL_cpI, hI_sL, hI_sR, hN_sI, hN_sL, hN_sR, hN_cpI, hU_sI, hU_sL, hU_sR, hU_cpI, tn0, tn1, tn2, tn3, tn4, tn5, tn6, tn7, tn8, tn9, tn10, tn11, tn12, tn13, tn14, tn15, tn16, tn17, tn18, tn19, tn20, tn21, tn22, tn23, tn24, tn25, tn26, tn27, tn28, tn29, tn30, tn31, tn32, tn33, tn34, tn35, tn36, tn37, tn38, tn39, tn40, tn41, tn42, tn43, tn44, tn45, tn46, tn47, tn48, tn49, tn50, tn51, tn52, tn53, tn54, tn55, tn56, tn57, tn58, tn59, tn60, lH_eq, true_and, and_true]
    exact ⟨f.2.2.1, f.2.2.2.1, k h' f (H.frs (FrG.of f) (fun c z => by omega) (hsc.fr f (fun j hj => by rw [f.2.2.2.2.1 (x + 21) (by omega)]; exact hsc.1.2 j hj) (fun j hj => by rw [f.2.2.2.2.1 (x + 27) (by omega)]; exact hsc.2.1.2.2.2.2.2 j hj) (fun j hj => by rw [f.2.2.2.2.1 (x + 39) (by omega)]; exact hsc.2.2.1.2.2 j hj) (fun j hj => by rw [f.2.2.2.2.1 (x + 81) (by omega)]; exact hsc.2.2.2.1.2.2.2.2.2 j hj) e0))⟩
  · have c4 : A 0 0 = 0 := by
      rcases HH with ⟨-, -, -, c4⟩ | ⟨c1, -⟩
      · exact c4
      · exact absurd z c1
    rw [if_neg (by rw [c4]; decide)] at k
    exact k h (Fr'.refl _ _) H

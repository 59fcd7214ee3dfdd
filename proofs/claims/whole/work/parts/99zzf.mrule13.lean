theorem op_new {h1 : AH} {m kk : Nat} {pile : List Nat} (e29 : hI h1 m 29 = nI pile.length) (e27 : hI h1 m 27 = nI (dpt (kk :: pile))) (O : OpIs (hI h1 (m + 28)) pile) : Fr' h1 (sI (sI h1 (m + 28) pile.length (nI kk)) m 29 (nI (pile.length + 1))) (fun c => c = m ∨ c = m + 28) ∧ (∀ j, j ≠ 29 → hI (sI (sI h1 (m + 28) pile.length (nI kk)) m 29 (nI (pile.length + 1))) m j = hI h1 m j) ∧ OP (sI (sI h1 (m + 28) pile.length (nI kk)) m 29 (nI (pile.length + 1))) m (kk :: pile) := by
  have g : ∀ j, j ≠ 29 → hI (sI (sI h1 (m + 28) pile.length (nI kk)) m 29 (nI (pile.length + 1))) m j = hI h1 m j := fun j hj => by rw [hI_sI, if_pos rfl, if_neg hj, hI_sI, if_neg (by omega)]
  refine ⟨(Fr'.sI (S := fun c => c = m ∨ c = m + 28) (Or.inr rfl)).trans (Fr'.sI (Or.inl rfl)), g, by rw [hI_sI, if_pos rfl, if_pos rfl]; simp, (g 27 (by decide)).trans e27, ?_, O.cg (fun j hj => ?_)⟩
  · rw [hI_sI, if_neg (by omega), hI_sI, if_pos rfl, if_pos rfl]
  · rw [hI_sI, if_neg (by omega), hI_sI, if_pos rfl, if_neg (by omega)]
theorem m_opens {d : Nat} {h : AH} {Q : Option Value → AH → Prop} (hd : 6 ≤ d) (m p kk : Nat) (pile : List Nat) (HM : ModAt h m) (O : OP h m pile) (hl : pile.length ≤ 35) (hdp : dpt pile ≤ 10) (hk : kk = 9 ∨ kk = 10 ∨ kk = 11 ∨ kk = 12) (e22 : hI h m 22 = nI p) (k : ∀ h', Fr' h h' (fun c => c = m ∨ c = m + 28) → (∀ j, j ≠ 23 → j ≠ 27 → j ≠ 29 → hI h' m j = hI h m j) → hI h' m 23 = (if (kk = 9 ∨ kk = 12) ∧ dpt pile = 10 then rfF (hI h m 23) p 2 else hI h m 23) → OP h' m (kk :: pile) → Q none h') : Calls d nX12_opens [.ref m, .int (nI kk)] h (hN h) (hU h) Q := by
  obtain ⟨e, rfl⟩ : ∃ e, d = e + 1 := ⟨d - 1, by omega⟩
  obtain ⟨o1, o2, o3⟩ := O
  have k9 : (nI kk = (9 : Int32)) = (kk = 9) := nI_eq_iff (b := 9) (by omega) (by decide)
  have k12 : (nI kk = (12 : Int32)) = (kk = 12) := nI_eq_iff (b := 12) (by omega) (by decide)
  have d10 : (nI (dpt pile) = (10 : Int32)) = (dpt pile = 10) := nI_eq_iff (b := 10) (by omega) (by decide)
  have nm28 : (m + 28 = m) = False := eq_false (by omega)
  have nm28' : (m = m + 28) = False := eq_false (by omega)
  have n2927 : ((29 : Nat) = 27) = False := eq_false (by decide)
  have deep : (kk = 9 ∨ kk = 12) → (¬ hI h m 27 = 10 → Q none (sI (sI (sI h m 27 (nI (dpt pile + 1))) (m + 28) pile.length (nI kk)) m 29 (nI (pile.length + 1)))) := fun hk2 c => by
    rw [o2, d10] at c
    rw [if_neg (fun z => c z.2)] at k
    have g0 : ∀ j, j ≠ 27 → hI (sI h m 27 (nI (dpt pile + 1))) m j = hI h m j := fun j hj => by rw [hI_sI, if_pos rfl, if_neg hj]
    obtain ⟨a, b, c'⟩ := op_new (h1 := sI h m 27 (nI (dpt pile + 1))) (m := m) (kk := kk) (pile := pile) ((g0 29 (by decide)).trans o1) (by rw [hI_sI, if_pos rfl, if_pos rfl, dpt_c, if_pos hk2, Nat.add_comm]) (o3.cg (fun j _ => by rw [hI_sI, if_neg (by omega)]))
    exact k _ ((Fr'.sI (S := fun c => c = m ∨ c = m + 28) (Or.inl rfl)).trans a) (fun j h23 h27 h29 => (b j h29).trans (g0 j h27)) ((b 23 (by decide)).trans (g0 23 (by decide))) c'
  have deepF : (kk = 9 ∨ kk = 12) → dpt pile = 10 → ∀ h1, Fr' h h1 (fun c => c = m) → (∀ j, j ≠ 23 → hI h1 m j = hI h m j) → hI h1 m 23 = rfF (hI h m 23) p 2 → Q none (sI (sI (sI h1 m 27 (nI (dpt pile + 1))) (m + 28) pile.length (nI kk)) m 29 (nI (pile.length + 1))) := fun hk2 c h1 f1 g1 e1 => by
    rw [if_pos ⟨hk2, c⟩] at k
    have g0 : ∀ j, j ≠ 27 → hI (sI h1 m 27 (nI (dpt pile + 1))) m j = hI h1 m j := fun j hj => by rw [hI_sI, if_pos rfl, if_neg hj]
    obtain ⟨a, b, c'⟩ := op_new (h1 := sI h1 m 27 (nI (dpt pile + 1))) (m := m) (kk := kk) (pile := pile) ((g0 29 (by decide)).trans ((g1 29 (by decide)).trans o1)) (by rw [hI_sI, if_pos rfl, if_pos rfl, dpt_c, if_pos hk2, Nat.add_comm]) (o3.cg (fun j _ => by rw [hI_sI, if_neg (by omega)]; exact f1.2.2.2.2.1 (m + 28) (by omega) j))
    exact k _ (((f1.mono (fun c z => Or.inl z)).trans (Fr'.sI (S := fun c => c = m ∨ c = m + 28) (Or.inl rfl))).trans a) (fun j h23 h27 h29 => (b j h29).trans ((g0 j h27).trans (g1 j h23))) ((b 23 (by decide)).trans ((g0 23 (by decide)).trans e1)) c'
  have fl : (kk = 9 ∨ kk = 12) → dpt pile = 10 → Calls e nX12_fails [.ref m, .int 2, .int (nI p)] h (hN h) (hU h) (fun r5 h4 => rV r5 ((hS h4 m).1 = 10 + 12 ∧ (hS h4 m).1 = 10 + 12 ∧ lH (sI h4 m 27 ((hI h4 m 27) + 1)) fun h6 => (hS h6 m).1 = 10 + 12 ∧ (hS h6 m).1 = 10 + 12 ∧ (hS h6 (hR h6 m 38)).1 = 1 ∧ vp_in (hI h6 m 29) (hS h6 (hR h6 m 38)).2 ∧ lH (sI h6 (hR h6 m 38) (Int32.toNatClampNeg (hI h6 m 29)) (nI kk)) fun h7 => (hS h7 m).1 = 10 + 12 ∧ (hS h7 m).1 = 10 + 12 ∧ lH (sI h7 m 29 ((hI h7 m 29) + 1)) fun h8 => RtOf none (hN h) (hU h) Q none h8)) := fun hk2 c => by
    refine m_fails (by omega) m 2 p HM (fun h1 f1 g1 e1 => ?_)
    have HM1 := HM.fr f1
    have r29 := (g1 29 (by decide)).trans o1
    have r27 := (g1 27 (by decide)).trans o2
    simp only [rt_i, rt_b0, rt_b1, rt_v, rt_l, rt_o, rt_a, rV_none, rI_some, rL_some, rR_some, rT_some, rt_bI, hIf_sL, hIf_sR, hS_sI, hS_sL, hS_sR, hS_cpI, hR_sI, hR_sL, hR_cpI, hL_sI, hL_sR, hL_cpI, hI_sL, hI_sR, hN_sI, hN_sL, hN_sR, hN_cpI, hU_sI, hU_sL, hU_sR, hU_cpI, tn0, tn1, tn2, tn3, tn4, tn5, tn6, tn7, tn8, tn9, tn10, tn11, tn12, tn13, tn14, tn15, tn16, tn17, tn18, tn19, tn20, tn21, tn22, tn23, tn24, tn25, tn26, tn27, tn28, tn29, tn30, tn31, tn32, tn33, tn34, tn35, tn36, tn37, tn38, tn39, tn40, tn41, tn42, tn43, tn44, tn45, tn46, tn47, tn48, tn49, tn50, tn51, tn52, tn53, tn54, tn55, tn56, tn57, tn58, tn59, tn60, lH_eq, true_and, and_true, mdq_0 HM1, mdq_38 HM1, mds_38 HM1, r27, r29, hI_sI, nm28', n2927, if_false, if_true, nI_1, vp_in_nI (show pile.length < 402 by omega) (show 402 < 2 ^ 31 by omega), nI_clamp (show pile.length < 2 ^ 31 by omega)]
    exact ⟨f1.2.2.1, f1.2.2.2.1, deepF hk2 c h1 f1 g1 e1⟩
  refine wX12_opens (by omega) m (nI kk) ?_
  refine ⟨fun z => ?_, fun z => ⟨fun y => ?_, fun y => ?_⟩⟩
  · rw [k9] at z
    have hk2 : kk = 9 ∨ kk = 12 := Or.inl z
    refine ⟨by rw [mdq_0 HM], fun c => ?_, fun c => ?_⟩
    · have D := deep hk2 c
      simp only [rt_i, rt_b0, rt_b1, rt_v, rt_l, rt_o, rt_a, rV_none, rI_some, rL_some, rR_some, rT_some, rt_bI, hIf_sL, hIf_sR, hS_sI, hS_sL, hS_sR, hS_cpI, hR_sI, hR_sL, hR_cpI, hL_sI, hL_sR, hL_cpI, hI_sL, hI_sR, hN_sI, hN_sL, hN_sR, hN_cpI, hU_sI, hU_sL, hU_sR, hU_cpI, tn0, tn1, tn2, tn3, tn4, tn5, tn6, tn7, tn8, tn9, tn10, tn11, tn12, tn13, tn14, tn15, tn16, tn17, tn18, tn19, tn20, tn21, tn22, tn23, tn24, tn25, tn26, tn27, tn28, tn29, tn30, tn31, tn32, tn33, tn34, tn35, tn36, tn37, tn38, tn39, tn40, tn41, tn42, tn43, tn44, tn45, tn46, tn47, tn48, tn49, tn50, tn51, tn52, tn53, tn54, tn55, tn56, tn57, tn58, tn59, tn60, lH_eq, true_and, and_true, mdq_0 HM, mdq_38 HM, mds_38 HM, o2, o1, hI_sI, nm28', n2927, if_false, if_true, nI_1, vp_in_nI (show pile.length < 402 by omega) (show 402 < 2 ^ 31 by omega), nI_clamp (show pile.length < 2 ^ 31 by omega)]
      exact D
    · rw [o2, d10] at c
      rw [e22]
      exact ⟨by rw [mdq_0 HM], by rw [mdq_0 HM], fl hk2 c⟩
  · rw [k12] at y
    rw [k9] at z
    have hk2 : ¬ (kk = 9 ∨ kk = 12) := by omega
    rw [if_neg (fun c => hk2 c.1)] at k
    obtain ⟨a, b, c'⟩ := op_new (h1 := h) (m := m) (kk := kk) (pile := pile) o1 (by rw [dpt_c, if_neg hk2, Nat.zero_add]; exact o2) o3
    simp only [rt_i, rt_b0, rt_b1, rt_v, rt_l, rt_o, rt_a, rV_none, rI_some, rL_some, rR_some, rT_some, rt_bI, hIf_sL, hIf_sR, hS_sI, hS_sL, hS_sR, hS_cpI, hR_sI, hR_sL, hR_cpI, hL_sI, hL_sR, hL_cpI, hI_sL, hI_sR, hN_sI, hN_sL, hN_sR, hN_cpI, hU_sI, hU_sL, hU_sR, hU_cpI, tn0, tn1, tn2, tn3, tn4, tn5, tn6, tn7, tn8, tn9, tn10, tn11, tn12, tn13, tn14, tn15, tn16, tn17, tn18, tn19, tn20, tn21, tn22, tn23, tn24, tn25, tn26, tn27, tn28, tn29, tn30, tn31, tn32, tn33, tn34, tn35, tn36, tn37, tn38, tn39, tn40, tn41, tn42, tn43, tn44, tn45, tn46, tn47, tn48, tn49, tn50, tn51, tn52, tn53, tn54, tn55, tn56, tn57, tn58, tn59, tn60, lH_eq, true_and, and_true, mdq_0 HM, mdq_38 HM, mds_38 HM, o1, hI_sI, nm28', n2927, if_false, if_true, nI_1, vp_in_nI (show pile.length < 402 by omega) (show 402 < 2 ^ 31 by omega), nI_clamp (show pile.length < 2 ^ 31 by omega)]
    exact k _ a (fun j _ _ h29 => b j h29) (b 23 (by decide)) c'
  · rw [k12] at y
    have hk2 : kk = 9 ∨ kk = 12 := Or.inr y
    refine ⟨by rw [mdq_0 HM], fun c => ?_, fun c => ?_⟩
    · have D := deep hk2 c
      simp only [rt_i, rt_b0, rt_b1, rt_v, rt_l, rt_o, rt_a, rV_none, rI_some, rL_some, rR_some, rT_some, rt_bI, hIf_sL, hIf_sR, hS_sI, hS_sL, hS_sR, hS_cpI, hR_sI, hR_sL, hR_cpI, hL_sI, hL_sR, hL_cpI, hI_sL, hI_sR, hN_sI, hN_sL, hN_sR, hN_cpI, hU_sI, hU_sL, hU_sR, hU_cpI, tn0, tn1, tn2, tn3, tn4, tn5, tn6, tn7, tn8, tn9, tn10, tn11, tn12, tn13, tn14, tn15, tn16, tn17, tn18, tn19, tn20, tn21, tn22, tn23, tn24, tn25, tn26, tn27, tn28, tn29, tn30, tn31, tn32, tn33, tn34, tn35, tn36, tn37, tn38, tn39, tn40, tn41, tn42, tn43, tn44, tn45, tn46, tn47, tn48, tn49, tn50, tn51, tn52, tn53, tn54, tn55, tn56, tn57, tn58, tn59, tn60, lH_eq, true_and, and_true, mdq_0 HM, mdq_38 HM, mds_38 HM, o2, o1, hI_sI, nm28', n2927, if_false, if_true, nI_1, vp_in_nI (show pile.length < 402 by omega) (show 402 < 2 ^ 31 by omega), nI_clamp (show pile.length < 2 ^ 31 by omega)]
      exact D
    · rw [o2, d10] at c
      rw [e22]
      exact ⟨by rw [mdq_0 HM], by rw [mdq_0 HM], fl hk2 c⟩

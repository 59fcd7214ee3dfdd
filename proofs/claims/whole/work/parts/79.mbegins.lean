/-! the reference begins anew -/
theorem bg62 {d E1 E2 : Nat} {Q : Option Value → AH → Prop} (hd : 4 ≤ d) (m : Nat) : ∀ (n i : Nat) (h : AH), i + n = 6 → ModAt h m → hN h = E1 → hU h = E2 → (∀ h', Fr' h h' (fun c => c = m + 6) → (∀ j, hI h' (m + 6) j = if i ≤ j ∧ j < 6 then -1 else hI h (m + 6) j) → Q none h') → Reach d nX12_begins (62, [.ref m, .int (nI i)], []) h E1 E2 Q
  | 0, i, h, hi, H, e1, e2, k => by
    have : i = 6 := by omega
    subst this
    refine wX12_begins_62 hd m (nI 6) ?_
    have h5 : ((6 : Int32) ≤ nI 6) = (6 ≤ 6) := nI_le_iff (a := 6) (by omega) (by omega)
    simp only [rt_i, rt_b0, rt_b1, rt_v, rt_l, rt_o, rt_a, rV_none, rI_some, rL_some, rR_some, rT_some, rt_bI, hIf_sL, hIf_sR, hS_sI, hS_sL, hS_sR, hS_cpI, hR_sI, hR_sL, hR_cpI, hL_sI, hL_sR, hL_cpI, hI_sL, hI_sR, hN_sI, hN_sL, hN_sR, hN_cpI, hU_sI, hU_sL, hU_sR, hU_cpI, tn0, tn1, tn2, tn3, tn4, tn5, tn6, tn7, tn8, tn9, tn10, tn11, tn12, tn13, tn14, tn15, tn16, tn17, tn18, tn19, tn20, tn21, tn22, tn23, tn24, tn25, tn26, tn27, tn28, tn29, tn30, tn31, tn32, tn33, tn34, tn35, tn36, tn37, tn38, tn39, tn40, tn41, tn42, tn43, tn44, tn45, tn46, tn47, tn48, tn49, tn50, tn51, tn52, tn53, tn54, tn55, tn56, tn57, tn58, tn59, tn60, lH_eq, true_and, and_true, h5]
    exact ⟨fun _ => ⟨e1, e2, k h (Fr'.refl _ _) (fun j => by rw [if_neg (by omega)])⟩, fun z => absurd (Nat.le_refl 6) z⟩
  | n + 1, i, h, hi, H, e1, e2, k => by
    refine wX12_begins_62 hd m (nI i) ?_
    have h5 : ((6 : Int32) ≤ nI i) = (6 ≤ i) := nI_le_iff (a := 6) (by omega) (by omega)
    simp only [rt_i, rt_b0, rt_b1, rt_v, rt_l, rt_o, rt_a, rV_none, rI_some, rL_some, rR_some, rT_some, rt_bI, hIf_sL, hIf_sR, hS_sI, hS_sL, hS_sR, hS_cpI, hR_sI, hR_sL, hR_cpI, hL_sI, hL_sR, hL_cpI, hI_sL, hI_sR, hN_sI, hN_sL, hN_sR, hN_cpI, hU_sI, hU_sL, hU_sR, hU_cpI, tn0, tn1, tn2, tn3, tn4, tn5, tn6, tn7, tn8, tn9, tn10, tn11, tn12, tn13, tn14, tn15, tn16, tn17, tn18, tn19, tn20, tn21, tn22, tn23, tn24, tn25, tn26, tn27, tn28, tn29, tn30, tn31, tn32, tn33, tn34, tn35, tn36, tn37, tn38, tn39, tn40, tn41, tn42, tn43, tn44, tn45, tn46, tn47, tn48, tn49, tn50, tn51, tn52, tn53, tn54, tn55, tn56, tn57, tn58, tn59, tn60, lH_eq, true_and, and_true, mdq_0 H, mdq_6 H, mds_6 H, vp_in_nI (show i < 6 by omega) (show 6 < 2 ^ 31 by omega), nI_clamp (show i < 2 ^ 31 by omega), h5, nI_1]
    refine ⟨fun z => absurd z (by omega), fun _ => ?_⟩
    refine bg62 hd m n (i + 1) _ (by omega) (H.fr (Fr'.sI (S := fun c => c = m + 6) rfl)) e1 e2 (fun h' f q => k h' ((Fr'.sI (S := fun c => c = m + 6) rfl).trans f) (fun j => ?_))
    rw [q j, hI_sI, if_pos rfl]
    by_cases c : i + 1 ≤ j ∧ j < 6
    · rw [if_pos c, if_pos (by omega)]
    · rw [if_neg c]
      by_cases c2 : j = i
      · rw [if_pos c2, if_pos (by omega)]
      · rw [if_neg c2, if_neg (by omega)]
theorem bg42 {d E1 E2 : Nat} {Q : Option Value → AH → Prop} (hd : 4 ≤ d) (m : Nat) : ∀ (n i : Nat) (h : AH), i + n = 5 → ModAt h m → hN h = E1 → hU h = E2 → (∀ h', Fr' h h' (fun c => c = m + 3 ∨ c = m + 6) → (∀ j, hI h' (m + 3) j = if i ≤ j ∧ j < 5 then 0 else hI h (m + 3) j) → (∀ j, j < 6 → hI h' (m + 6) j = -1) → Q none h') → Reach d nX12_begins (42, [.ref m, .int (nI i)], []) h E1 E2 Q
  | 0, i, h, hi, H, e1, e2, k => by
    have : i = 5 := by omega
    subst this
    refine wX12_begins_42 hd m (nI 5) ?_
    have h5 : ((5 : Int32) ≤ nI 5) = (5 ≤ 5) := nI_le_iff (a := 5) (by omega) (by omega)
    simp only [rt_i, rt_b0, rt_b1, rt_v, rt_l, rt_o, rt_a, rV_none, rI_some, rL_some, rR_some, rT_some, rt_bI, hIf_sL, hIf_sR, hS_sI, hS_sL, hS_sR, hS_cpI, hR_sI, hR_sL, hR_cpI, hL_sI, hL_sR, hL_cpI, hI_sL, hI_sR, hN_sI, hN_sL, hN_sR, hN_cpI, hU_sI, hU_sL, hU_sR, hU_cpI, tn0, tn1, tn2, tn3, tn4, tn5, tn6, tn7, tn8, tn9, tn10, tn11, tn12, tn13, tn14, tn15, tn16, tn17, tn18, tn19, tn20, tn21, tn22, tn23, tn24, tn25, tn26, tn27, tn28, tn29, tn30, tn31, tn32, tn33, tn34, tn35, tn36, tn37, tn38, tn39, tn40, tn41, tn42, tn43, tn44, tn45, tn46, tn47, tn48, tn49, tn50, tn51, tn52, tn53, tn54, tn55, tn56, tn57, tn58, tn59, tn60, lH_eq, true_and, and_true, h5]
    refine ⟨fun _ => ?_, fun z => absurd (Nat.le_refl 5) z⟩
    exact bg62 hd m 6 0 h (by omega) H e1 e2 (fun h' f q => k h' (f.mono (fun c z => Or.inr z)) (fun j => by rw [if_neg (by omega), f.2.2.2.2.1 (m + 3) (by omega)]) (fun j hj => by rw [q j, if_pos (by omega)]))
  | n + 1, i, h, hi, H, e1, e2, k => by
    refine wX12_begins_42 hd m (nI i) ?_
    have h5 : ((5 : Int32) ≤ nI i) = (5 ≤ i) := nI_le_iff (a := 5) (by omega) (by omega)
    simp only [rt_i, rt_b0, rt_b1, rt_v, rt_l, rt_o, rt_a, rV_none, rI_some, rL_some, rR_some, rT_some, rt_bI, hIf_sL, hIf_sR, hS_sI, hS_sL, hS_sR, hS_cpI, hR_sI, hR_sL, hR_cpI, hL_sI, hL_sR, hL_cpI, hI_sL, hI_sR, hN_sI, hN_sL, hN_sR, hN_cpI, hU_sI, hU_sL, hU_sR, hU_cpI, tn0, tn1, tn2, tn3, tn4, tn5, tn6, tn7, tn8, tn9, tn10, tn11, tn12, tn13, tn14, tn15, tn16, tn17, tn18, tn19, tn20, tn21, tn22, tn23, tn24, tn25, tn26, tn27, tn28, tn29, tn30, tn31, tn32, tn33, tn34, tn35, tn36, tn37, tn38, tn39, tn40, tn41, tn42, tn43, tn44, tn45, tn46, tn47, tn48, tn49, tn50, tn51, tn52, tn53, tn54, tn55, tn56, tn57, tn58, tn59, tn60, lH_eq, true_and, and_true, mdq_0 H, mdq_3 H, mds_3 H, vp_in_nI (show i < 5 by omega) (show 5 < 2 ^ 31 by omega), nI_clamp (show i < 2 ^ 31 by omega), h5, nI_1]
    refine ⟨fun z => absurd z (by omega), fun _ => ?_⟩
    refine bg42 hd m n (i + 1) _ (by omega) (H.fr (Fr'.sI (S := fun c => c = m + 3) rfl)) e1 e2 (fun h' f q q6 => k h' ((Fr'.sI (S := fun c => c = m + 3 ∨ c = m + 6) (Or.inl rfl)).trans f) (fun j => ?_) q6)
    rw [q j, hI_sI, if_pos rfl]
    by_cases c : i + 1 ≤ j ∧ j < 5
    · rw [if_pos c, if_pos (by omega)]
    · rw [if_neg c]
      by_cases c2 : j = i
      · rw [if_pos c2, if_pos (by omega)]
      · rw [if_neg c2, if_neg (by omega)]
theorem m_begins {d : Nat} {h : AH} {Q : Option Value → AH → Prop} (hd : 7 ≤ d) (m : Nat) (H : ModAt h m) (k : ∀ h', Fr' h h' (fun c => m + 1 ≤ c ∧ c ≤ m + 6) → (∀ j, hI h' (m + 1) j = if j = 3 then 0 else hI h (m + 1) j) → (∀ j, j < 5 → hI h' (m + 4) j = hI h (m + 12) j ∧ hI h' (m + 2) j = hI h (m + 13) j ∧ hI h' (m + 3) j = 0) → (∀ j, j < 6 → hI h' (m + 5) j = hI h (m + 14) j ∧ hI h' (m + 6) j = -1) → Q none h') : Calls d nX12_begins [.ref m] h (hN h) (hU h) Q := by
  obtain ⟨e, rfl⟩ : ∃ e, d = e + 1 := ⟨d - 1, by omega⟩
  refine wX12_begins (by omega) m ?_
  simp only [rt_i, rt_b0, rt_b1, rt_v, rt_l, rt_o, rt_a, rV_none, rI_some, rL_some, rR_some, rT_some, rt_bI, hIf_sL, hIf_sR, hS_sI, hS_sL, hS_sR, hS_cpI, hR_sI, hR_sL, hR_cpI, hL_sI, hL_sR, hL_cpI, hI_sL, hI_sR, hN_sI, hN_sL, hN_sR, hN_cpI, hU_sI, hU_sL, hU_sR, hU_cpI, tn0, tn1, tn2, tn3, tn4, tn5, tn6, tn7, tn8, tn9, tn10, tn11, tn12, tn13, tn14, tn15, tn16, tn17, tn18, tn19, tn20, tn21, tn22, tn23, tn24, tn25, tn26, tn27, tn28, tn29, tn30, tn31, tn32, tn33, tn34, tn35, tn36, tn37, tn38, tn39, tn40, tn41, tn42, tn43, tn44, tn45, tn46, tn47, tn48, tn49, tn50, tn51, tn52, tn53, tn54, tn55, tn56, tn57, tn58, tn59, tn60, lH_eq, true_and, and_true, mdq_0 H, mdq_4 H, mds_4 H, mdq_12 H, mds_12 H]
  refine m_copies (by omega) (m + 12) (m + 4) 5 (by omega) (by decide) (mds_12 H) (mds_4 H) (fun h1 f1 q1 => ?_)
  have H1 := H.fr f1
  simp only [rV_none, mdq_0 H1, mdq_13 H1, mds_13 H1, mdq_2 H1, mds_2 H1, true_and]
  refine m_copies (by omega) (m + 13) (m + 2) 5 (by omega) (by decide) (mds_13 H1) (mds_2 H1) (fun h2 f2 q2 => ?_)
  have H2 := H1.fr f2
  simp only [rV_none, mdq_0 H2, mdq_14 H2, mds_14 H2, mdq_5 H2, mds_5 H2, true_and]
  refine m_copies (by omega) (m + 14) (m + 5) 6 (by omega) (by decide) (mds_14 H2) (mds_5 H2) (fun h3 f3 q3 => ?_)
  have H3 := H2.fr f3
  simp only [rV_none, rt_i, rt_b0, rt_b1, rt_v, rt_l, rt_o, rt_a, rV_none, rI_some, rL_some, rR_some, rT_some, rt_bI, hIf_sL, hIf_sR, hS_sI, hS_sL, hS_sR, hS_cpI, hR_sI, hR_sL, hR_cpI, hL_sI, hL_sR, hL_cpI, hI_sL, hI_sR, hN_sI, hN_sL, hN_sR, hN_cpI, hU_sI, hU_sL, hU_sR, hU_cpI, tn0, tn1, tn2, tn3, tn4, tn5, tn6, tn7, tn8, tn9, tn10, tn11, tn12, tn13, tn14, tn15, tn16, tn17, tn18, tn19, tn20, tn21, tn22, tn23, tn24, tn25, tn26, tn27, tn28, tn29, tn30, tn31, tn32, tn33, tn34, tn35, tn36, tn37, tn38, tn39, tn40, tn41, tn42, tn43, tn44, tn45, tn46, tn47, tn48, tn49, tn50, tn51, tn52, tn53, tn54, tn55, tn56, tn57, tn58, tn59, tn60, lH_eq, true_and, and_true, mdq_0 H3, mdq_1 H3, mds_1 H3, vl7_0, vl7_1, vl7_2, vl7_3, vl7_4, vl7_5, vl7_6]
  have g3 : Fr' h h3 (fun c => c = m + 4 ∨ c = m + 2 ∨ c = m + 5) := ((f1.mono (fun c z => Or.inl z)).trans (f2.mono (fun c z => Or.inr (Or.inl z)))).trans (f3.mono (fun c z => Or.inr (Or.inr z)))
  have f4 : Fr' h3 (sI h3 (m + 1) 3 0) (fun c => c = m + 1) := Fr'.sI rfl
  refine bg42 (by omega) m 5 0 _ (by omega) (H3.fr f4) g3.2.2.1 g3.2.2.2.1 (fun h5 f5 q5 q6 => ?_)
  have g5 : Fr' h h5 (fun c => m + 1 ≤ c ∧ c ≤ m + 6) := ((g3.mono (fun c z => by omega)).trans (f4.mono (fun c z => by omega))).trans (f5.mono (fun c z => by omega))
  refine k h5 g5 (fun j => ?_) (fun j hj => ⟨?_, ?_, ?_⟩) (fun j hj => ⟨?_, q6 j hj⟩)
  · rw [f5.2.2.2.2.1 (m + 1) (by omega), hI_sI, if_pos rfl, g3.2.2.2.2.1 (m + 1) (by omega)]
  · rw [f5.2.2.2.2.1 (m + 4) (by omega), f4.2.2.2.2.1 (m + 4) (by omega), f3.2.2.2.2.1 (m + 4) (by omega), f2.2.2.2.2.1 (m + 4) (by omega), q1 j hj]
  · rw [f5.2.2.2.2.1 (m + 2) (by omega), f4.2.2.2.2.1 (m + 2) (by omega), f3.2.2.2.2.1 (m + 2) (by omega), q2 j hj, f1.2.2.2.2.1 (m + 13) (by omega)]
  · rw [q5 j, if_pos (by omega)]
  · rw [f5.2.2.2.2.1 (m + 5) (by omega), f4.2.2.2.2.1 (m + 5) (by omega), q3 j hj, f2.2.2.2.2.1 (m + 14) (by omega), f1.2.2.2.2.1 (m + 14) (by omega)]
theorem begM_ok {nr nw : Nat} {A : PC} (hA : hilOk nr nw A) : momOk 0 nr nw (begM A) := by
  obtain ⟨h1, h2, h3, h4, h5⟩ := hA
  have z0 : (0 : Int32).toInt = 0 := by decide
  refine ⟨?_, fun j hj => ?_, fun j hj => (h5 j hj).1⟩
  · show 0 ≤ (0 : Int32).toInt ∧ (0 : Int32).toInt ≤ 0
    omega
  · obtain ⟨a, b⟩ := h4 j hj
    refine ⟨a, ?_, ?_⟩
    · show -99 ≤ (A 2 j).toInt ∧ (A 2 j).toInt ≤ 99
      omega
    · show 0 ≤ (0 : Int32).toInt ∧ (0 : Int32).toInt ≤ 9999
      omega
theorem qc_beg {h h' : AH} {m nr nw : Nat} {A N : PC} {R R' : Option (List (List (Nat × Nat) × List (Nat × Nat)))} {od : Nat → Option Int32} (hr5 : nr ≤ 5) (hw6 : nw ≤ 6) (H : QC h m nr nw A N R od) (f : Fr' h h' (fun c => m + 1 ≤ c ∧ c ≤ m + 6)) (e1 : ∀ j, j < 3 → hI h' (m + 1) j = hI h (m + 1) j) (e3 : hI h' (m + 1) 3 = 0) (e5 : ∀ j, j < 5 → hI h' (m + 4) j = hI h (m + 12) j ∧ hI h' (m + 2) j = hI h (m + 13) j ∧ hI h' (m + 3) j = 0) (e6 : ∀ j, j < 6 → hI h' (m + 5) j = hI h (m + 14) j ∧ hI h' (m + 6) j = -1) (hf : MFor h' m R') : QC h' m nr nw A (begM A) R' od := by
  obtain ⟨H0, ⟨a1, a2, ⟨a3, a3'⟩, a4, a5⟩, H2, H3, H4⟩ := H
  have g : ∀ c, m + 7 ≤ c → ∀ j, hI h' c j = hI h c j := fun c hc j => f.2.2.2.2.1 c (by omega) j
  refine ⟨H0.fr f, ⟨by rw [e1 1 (by decide)]; exact a1, by rw [e1 2 (by decide)]; exact a2, ⟨(e1 0 (by decide)).trans a3, fun j hj => ⟨(g (m + 7) (by omega) j).trans (a3' j hj).1, (g (m + 8) (by omega) j).trans (a3' j hj).2⟩⟩, fun j hj => ⟨(g (m + 12) (by omega) j).trans (a4 j hj).1, (g (m + 13) (by omega) j).trans (a4 j hj).2⟩, fun j hj => (g (m + 14) (by omega) j).trans (a5 j hj)⟩, ⟨e3, fun j hj => ⟨(e5 j (by omega)).1.trans (a4 j hj).1, (e5 j (by omega)).2.1.trans (a4 j hj).2, (e5 j (by omega)).2.2⟩, fun j hj => ⟨(e6 j (by omega)).1.trans (a5 j hj), (e6 j (by omega)).2⟩⟩, hf, fun j hj => by rw [g _ (by omega)]; exact H4 j hj⟩

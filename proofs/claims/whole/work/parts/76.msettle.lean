/-! settling, reference -/
theorem m_has {d : Nat} {h : AH} {Q : Option Value → AH → Prop} (hd : 5 ≤ d) (s r : Nat) (hs : s < 32) (hr : r < 5) (k : Q (some (.int (bI (s.testBit r = true)))) h) : Calls d nX12_has [.int (nI s), .int (nI r)] h (hN h) (hU h) Q := by
  obtain ⟨e, rfl⟩ : ∃ e, d = e + 1 := ⟨d - 1, by omega⟩
  refine wX12_has (by omega) (nI s) (nI r) ?_
  simp only [rt_i, rt_b0, rt_b1, rt_v, rt_l, rt_o, rt_a, rV_none, rI_some, rL_some, rR_some, rT_some, rt_bI, hIf_sL, hIf_sR, hS_sI, hS_sL, hS_sR, hS_cpI, hR_sI, hR_sL, hR_cpI, hL_sI, hL_sR, hL_cpI, hI_sL, hI_sR, hN_sI, hN_sL, hN_sR, hN_cpI, hU_sI, hU_sL, hU_sR, hU_cpI, tn0, tn1, tn2, tn3, tn4, tn5, tn6, tn7, tn8, tn9, tn10, tn11, tn12, tn13, tn14, tn15, tn16, tn17, tn18, tn19, tn20, tn21, tn22, tn23, tn24, tn25, tn26, tn27, tn28, tn29, tn30, tn31, tn32, tn33, tn34, tn35, tn36, tn37, tn38, tn39, tn40, tn41, tn42, tn43, tn44, tn45, tn46, tn47, tn48, tn49, tn50, tn51, tn52, tn53, tn54, tn55, tn56, tn57, tn58, tn59, tn60, lH_eq, true_and, and_true, bt_eq hs hr]
  refine ⟨fun z => ?_, fun z => ?_⟩
  · rwa [bI_f z] at k
  · rwa [bI_t z] at k
def bsN (s : Nat) : Nat → Nat
  | 0 => 0
  | n + 1 => bsN s n + s / 2 ^ n % 2
theorem bs16 : ∀ s, s < 32 → bsN s 16 = popN s := by decide +kernel
theorem bsh : ∀ s, s < 32 → ∀ k, k < 16 → (((nI s : Int32) >>> (nI k &&& 31)) &&& 1) = nI (s / 2 ^ k % 2) := by decide +kernel
theorem bs_loop {d E1 E2 : Nat} {Q : Option Value → AH → Prop} {h : AH} (hd : 4 ≤ d) (s : Nat) (hs : s < 32) (e1 : hN h = E1) (e2 : hU h = E2) (k : Q (some (.int (nI (popN s)))) h) : ∀ n i : Nat, i + n = 16 → Reach d nX12_bits (4, [.int (nI s), .int (nI (bsN s i)), .int (nI i)], []) h E1 E2 Q
  | 0, i, hi => by
    have : i = 16 := by omega
    subst this
    refine wX12_bits_4 hd (nI s) _ (nI 16) ?_
    have h5 : ((16 : Int32) ≤ nI 16) = (16 ≤ 16) := nI_le_iff (a := 16) (by omega) (by omega)
    simp only [rt_i, rt_b0, rt_b1, rt_v, rt_l, rt_o, rt_a, rV_none, rI_some, rL_some, rR_some, rT_some, rt_bI, hIf_sL, hIf_sR, hS_sI, hS_sL, hS_sR, hS_cpI, hR_sI, hR_sL, hR_cpI, hL_sI, hL_sR, hL_cpI, hI_sL, hI_sR, hN_sI, hN_sL, hN_sR, hN_cpI, hU_sI, hU_sL, hU_sR, hU_cpI, tn0, tn1, tn2, tn3, tn4, tn5, tn6, tn7, tn8, tn9, tn10, tn11, tn12, tn13, tn14, tn15, tn16, tn17, tn18, tn19, tn20, tn21, tn22, tn23, tn24, tn25, tn26, tn27, tn28, tn29, tn30, tn31, tn32, tn33, tn34, tn35, tn36, tn37, tn38, tn39, tn40, tn41, tn42, tn43, tn44, tn45, tn46, tn47, tn48, tn49, tn50, tn51, tn52, tn53, tn54, tn55, tn56, tn57, tn58, tn59, tn60, lH_eq, true_and, and_true, h5]
    rw [← bs16 s hs] at k
    exact ⟨fun _ => ⟨e1, e2, k⟩, fun z => absurd (Nat.le_refl 16) z⟩
  | n + 1, i, hi => by
    have ih := bs_loop hd s hs e1 e2 k n (i + 1) (by omega)
    refine wX12_bits_4 hd (nI s) _ (nI i) ?_
    have h5 : ((16 : Int32) ≤ nI i) = (16 ≤ i) := nI_le_iff (a := 16) (by omega) (by omega)
    simp only [rt_i, rt_b0, rt_b1, rt_v, rt_l, rt_o, rt_a, rV_none, rI_some, rL_some, rR_some, rT_some, rt_bI, hIf_sL, hIf_sR, hS_sI, hS_sL, hS_sR, hS_cpI, hR_sI, hR_sL, hR_cpI, hL_sI, hL_sR, hL_cpI, hI_sL, hI_sR, hN_sI, hN_sL, hN_sR, hN_cpI, hU_sI, hU_sL, hU_sR, hU_cpI, tn0, tn1, tn2, tn3, tn4, tn5, tn6, tn7, tn8, tn9, tn10, tn11, tn12, tn13, tn14, tn15, tn16, tn17, tn18, tn19, tn20, tn21, tn22, tn23, tn24, tn25, tn26, tn27, tn28, tn29, tn30, tn31, tn32, tn33, tn34, tn35, tn36, tn37, tn38, tn39, tn40, tn41, tn42, tn43, tn44, tn45, tn46, tn47, tn48, tn49, tn50, tn51, tn52, tn53, tn54, tn55, tn56, tn57, tn58, tn59, tn60, lH_eq, true_and, and_true, h5, bsh s hs i (by omega), nI_add, nI_1]
    exact ⟨fun z => absurd z (by omega), fun _ => ih⟩
theorem m_bits {d : Nat} {h : AH} {Q : Option Value → AH → Prop} (hd : 5 ≤ d) (s : Nat) (hs : s < 32) (k : Q (some (.int (nI (popN s)))) h) : Calls d nX12_bits [.int (nI s)] h (hN h) (hU h) Q := by
  obtain ⟨e, rfl⟩ : ∃ e, d = e + 1 := ⟨d - 1, by omega⟩
  exact wX12_bits (by omega) (nI s) (bs_loop (by omega) s hs rfl rfl k 16 0 (by omega))
theorem so_loop {d E1 E2 : Nat} {Q : Option Value → AH → Prop} {h : AH} (hd : 5 ≤ d) (m nr s : Nat) (f : Nat → Int32) (H : ModAt h m) (hn : hI h (m + 1) 1 = nI nr) (hr : nr ≤ 5) (hs : s < 32) (hf : ∀ j, j < nr → hI h (m + 2) j = f j) (e1 : hN h = E1) (e2 : hU h = E2) (k : Q (some (.int (tgF f s nr))) h) : ∀ n i : Nat, i + n = nr → Reach d nX12_sumOf (4, [.ref m, .int (nI s), .int (tgF f s i), .int (nI i)], []) h E1 E2 Q
  | 0, i, hi => by
    have : i = nr := by omega
    subst this
    refine wX12_sumOf_4 (by omega) m (nI s) _ (nI i) ?_
    simp only [rt_i, rt_b0, rt_b1, rt_v, rt_l, rt_o, rt_a, rV_none, rI_some, rL_some, rR_some, rT_some, rt_bI, hIf_sL, hIf_sR, hS_sI, hS_sL, hS_sR, hS_cpI, hR_sI, hR_sL, hR_cpI, hL_sI, hL_sR, hL_cpI, hI_sL, hI_sR, hN_sI, hN_sL, hN_sR, hN_cpI, hU_sI, hU_sL, hU_sR, hU_cpI, tn0, tn1, tn2, tn3, tn4, tn5, tn6, tn7, tn8, tn9, tn10, tn11, tn12, tn13, tn14, tn15, tn16, tn17, tn18, tn19, tn20, tn21, tn22, tn23, tn24, tn25, tn26, tn27, tn28, tn29, tn30, tn31, tn32, tn33, tn34, tn35, tn36, tn37, tn38, tn39, tn40, tn41, tn42, tn43, tn44, tn45, tn46, tn47, tn48, tn49, tn50, tn51, tn52, tn53, tn54, tn55, tn56, tn57, tn58, tn59, tn60, lH_eq, true_and, and_true, mdq_0 H, mdq_1 H, mds_1 H, mdq_2 H, mds_2 H, vl7_0, vl7_1, vl7_2, vl7_3, vl7_4, vl7_5, vl7_6, hn, nI_le_iff (show i < 2 ^ 31 by omega) (show i < 2 ^ 31 by omega)]
    exact ⟨fun _ => ⟨e1, e2, k⟩, fun z => absurd (Nat.le_refl i) z⟩
  | n + 1, i, hi => by
    have ih := so_loop hd m nr s f H hn hr hs hf e1 e2 k n (i + 1) (by omega)
    refine wX12_sumOf_4 (by omega) m (nI s) _ (nI i) ?_
    simp only [rt_i, rt_b0, rt_b1, rt_v, rt_l, rt_o, rt_a, rV_none, rI_some, rL_some, rR_some, rT_some, rt_bI, hIf_sL, hIf_sR, hS_sI, hS_sL, hS_sR, hS_cpI, hR_sI, hR_sL, hR_cpI, hL_sI, hL_sR, hL_cpI, hI_sL, hI_sR, hN_sI, hN_sL, hN_sR, hN_cpI, hU_sI, hU_sL, hU_sR, hU_cpI, tn0, tn1, tn2, tn3, tn4, tn5, tn6, tn7, tn8, tn9, tn10, tn11, tn12, tn13, tn14, tn15, tn16, tn17, tn18, tn19, tn20, tn21, tn22, tn23, tn24, tn25, tn26, tn27, tn28, tn29, tn30, tn31, tn32, tn33, tn34, tn35, tn36, tn37, tn38, tn39, tn40, tn41, tn42, tn43, tn44, tn45, tn46, tn47, tn48, tn49, tn50, tn51, tn52, tn53, tn54, tn55, tn56, tn57, tn58, tn59, tn60, lH_eq, true_and, and_true, mdq_0 H, mdq_1 H, mds_1 H, mdq_2 H, mds_2 H, vl7_0, vl7_1, vl7_2, vl7_3, vl7_4, vl7_5, vl7_6, hn, nI_le_iff (show nr < 2 ^ 31 by omega) (show i < 2 ^ 31 by omega), nI_1, Int32.add_zero]
    simp only [tgF] at ih
    refine ⟨fun z => absurd z (by omega), fun _ => ?_⟩
    refine m_has (by omega) s i hs (by omega) ?_
    simp only [rI_some, bI0, rt_i, rt_b0, rt_b1, rt_v, rt_l, rt_o, rt_a, rV_none, rI_some, rL_some, rR_some, rT_some, rt_bI, hIf_sL, hIf_sR, hS_sI, hS_sL, hS_sR, hS_cpI, hR_sI, hR_sL, hR_cpI, hL_sI, hL_sR, hL_cpI, hI_sL, hI_sR, hN_sI, hN_sL, hN_sR, hN_cpI, hU_sI, hU_sL, hU_sR, hU_cpI, tn0, tn1, tn2, tn3, tn4, tn5, tn6, tn7, tn8, tn9, tn10, tn11, tn12, tn13, tn14, tn15, tn16, tn17, tn18, tn19, tn20, tn21, tn22, tn23, tn24, tn25, tn26, tn27, tn28, tn29, tn30, tn31, tn32, tn33, tn34, tn35, tn36, tn37, tn38, tn39, tn40, tn41, tn42, tn43, tn44, tn45, tn46, tn47, tn48, tn49, tn50, tn51, tn52, tn53, tn54, tn55, tn56, tn57, tn58, tn59, tn60, lH_eq, true_and, and_true, mdq_0 H, mdq_2 H, mds_2 H, vp_in_nI (show i < 5 by omega) (show 5 < 2 ^ 31 by omega), nI_clamp (show i < 2 ^ 31 by omega), hf i (by omega)]
    refine ⟨fun z => ?_, fun z => ?_⟩
    · rwa [if_neg z] at ih
    · rwa [if_pos (Decidable.not_not.mp z)] at ih
theorem m_sumOf {d : Nat} {h : AH} {Q : Option Value → AH → Prop} (hd : 6 ≤ d) (m nr s : Nat) (f : Nat → Int32) (H : ModAt h m) (hn : hI h (m + 1) 1 = nI nr) (hr : nr ≤ 5) (hs : s < 32) (hf : ∀ j, j < nr → hI h (m + 2) j = f j) (k : Q (some (.int (tgF f s nr))) h) : Calls d nX12_sumOf [.ref m, .int (nI s)] h (hN h) (hU h) Q := by
  obtain ⟨e, rfl⟩ : ∃ e, d = e + 1 := ⟨d - 1, by omega⟩
  exact wX12_sumOf (by omega) m (nI s) (so_loop (by omega) m nr s f H hn hr hs hf rfl rfl k nr 0 (by omega))
/-- what the reference answers of rings -/
noncomputable def aRings (nr : Nat) (A M : PC) (w : Int32) : Int32 := if 0 < A 0 0 ∧ (0 ≤ w ∧ w ≤ 1) then (if w = 0 then nI (crF (M 2) nr (2 ^ nr)) else nI (grF (M 2) nr (2 ^ nr))) else -1
theorem ri_loop {d E1 E2 : Nat} {Q : Option Value → AH → Prop} {h : AH} (hd : 6 ≤ d) (m nr : Nat) (f : Nat → Int32) (w : Int32) (H : ModAt h m) (hn : hI h (m + 1) 1 = nI nr) (hr : nr ≤ 5) (hf : ∀ j, j < nr → hI h (m + 2) j = f j) (e1 : hN h = E1) (e2 : hU h = E2) (k : Q (some (.int (if w = 0 then nI (crF f nr (2 ^ nr)) else nI (grF f nr (2 ^ nr))))) h) : ∀ n s : Nat, s + n = 2 ^ nr → 1 ≤ s → Reach d nX12_rings (26, [.ref m, .int w, .int (nI (crF f nr s)), .int (nI (grF f nr s)), .int (nI s)], []) h E1 E2 Q
  | 0, s, hs, hs1 => by
    have : s = 2 ^ nr := by omega
    subst this
    have hl : 2 ^ nr ≤ 2 ^ 5 := Nat.pow_le_pow_right (by decide) hr
    refine wX12_rings_26 (by omega) m w _ _ _ ?_
    simp only [rt_i, rt_b0, rt_b1, rt_v, rt_l, rt_o, rt_a, rV_none, rI_some, rL_some, rR_some, rT_some, rt_bI, hIf_sL, hIf_sR, hS_sI, hS_sL, hS_sR, hS_cpI, hR_sI, hR_sL, hR_cpI, hL_sI, hL_sR, hL_cpI, hI_sL, hI_sR, hN_sI, hN_sL, hN_sR, hN_cpI, hU_sI, hU_sL, hU_sR, hU_cpI, tn0, tn1, tn2, tn3, tn4, tn5, tn6, tn7, tn8, tn9, tn10, tn11, tn12, tn13, tn14, tn15, tn16, tn17, tn18, tn19, tn20, tn21, tn22, tn23, tn24, tn25, tn26, tn27, tn28, tn29, tn30, tn31, tn32, tn33, tn34, tn35, tn36, tn37, tn38, tn39, tn40, tn41, tn42, tn43, tn44, tn45, tn46, tn47, tn48, tn49, tn50, tn51, tn52, tn53, tn54, tn55, tn56, tn57, tn58, tn59, tn60, lH_eq, true_and, and_true, mdq_0 H, mdq_1 H, mds_1 H, vl7_0, vl7_1, vl7_2, vl7_3, vl7_4, vl7_5, vl7_6, hn, sh5 nr hr, nI_le_iff (show 2 ^ nr < 2 ^ 31 by omega) (show 2 ^ nr < 2 ^ 31 by omega)]
    refine ⟨fun _ => ⟨fun z => ?_, fun z => ?_⟩, fun z => absurd (Nat.le_refl _) z⟩
    · rw [if_neg z] at k; exact ⟨e1, e2, k⟩
    · rw [if_pos z] at k; exact ⟨e1, e2, k⟩
  | n + 1, s, hs, hs1 => by
    have ih := ri_loop hd m nr f w H hn hr hf e1 e2 k n (s + 1) (by omega) (by omega)
    have hl : 2 ^ nr ≤ 2 ^ 5 := Nat.pow_le_pow_right (by decide) hr
    have hg := grF_lt f nr s
    have p1 := popN_le s
    have p2 := popN_le (grF f nr s)
    refine wX12_rings_26 (by omega) m w _ _ _ ?_
    simp only [rt_i, rt_b0, rt_b1, rt_v, rt_l, rt_o, rt_a, rV_none, rI_some, rL_some, rR_some, rT_some, rt_bI, hIf_sL, hIf_sR, hS_sI, hS_sL, hS_sR, hS_cpI, hR_sI, hR_sL, hR_cpI, hL_sI, hL_sR, hL_cpI, hI_sL, hI_sR, hN_sI, hN_sL, hN_sR, hN_cpI, hU_sI, hU_sL, hU_sR, hU_cpI, tn0, tn1, tn2, tn3, tn4, tn5, tn6, tn7, tn8, tn9, tn10, tn11, tn12, tn13, tn14, tn15, tn16, tn17, tn18, tn19, tn20, tn21, tn22, tn23, tn24, tn25, tn26, tn27, tn28, tn29, tn30, tn31, tn32, tn33, tn34, tn35, tn36, tn37, tn38, tn39, tn40, tn41, tn42, tn43, tn44, tn45, tn46, tn47, tn48, tn49, tn50, tn51, tn52, tn53, tn54, tn55, tn56, tn57, tn58, tn59, tn60, lH_eq, true_and, and_true, mdq_0 H, mdq_1 H, mds_1 H, vl7_0, vl7_1, vl7_2, vl7_3, vl7_4, vl7_5, vl7_6, hn, sh5 nr hr, nI_le_iff (show 2 ^ nr < 2 ^ 31 by omega) (show s < 2 ^ 31 by omega), nI_1]
    refine ⟨fun z => absurd z (by omega), fun _ => ?_⟩
    refine m_sumOf (by omega) m nr s f H hn hr (by omega) hf ?_
    simp only [rI_some, nI_1]
    simp only [grF, crF] at ih
    refine ⟨fun z => ?_, fun z => ?_⟩
    · rwa [if_neg (show ¬ (0 < s ∧ tgF f s nr = 0) from fun y => z y.2), if_neg (fun y => z y.1.2)] at ih
    · refine m_bits (by omega) s (by omega) ?_
      rw [rI_some]
      refine m_bits (by omega) (grF f nr s) (by omega) ?_
      simp only [rI_some, nI_le_iff (show popN s < 2 ^ 31 by omega) (show popN (grF f nr s) < 2 ^ 31 by omega)]
      rw [if_pos (show 0 < s ∧ tgF f s nr = 0 from ⟨by omega, z⟩)] at ih
      refine ⟨fun y => ?_, fun y => ?_⟩
      · rwa [if_neg (fun x => absurd x.2 (by omega))] at ih
      · rwa [if_pos ⟨⟨by omega, z⟩, by omega⟩] at ih
theorem m_rings {d : Nat} {h : AH} {Q : Option Value → AH → Prop} (hd : 8 ≤ d) (m nr nw : Nat) (A M : PC) (R : Option (List (List (Nat × Nat) × List (Nat × Nat)))) (w : Int32) (H : QK h m nr nw A M R) (kk : Q (some (.int (aRings nr A M w))) h) : Calls d nX12_rings [.ref m, .int w] h (hN h) (hU h) Q := by
  obtain ⟨e, rfl⟩ : ∃ e, d = e + 1 := ⟨d - 1, by omega⟩
  obtain ⟨HC, H5, hr5, hw6, hh⟩ := H
  have e0 : hI h (m + 1) 0 = A 0 0 := HC.2.1.2.2.1.1
  have hf : ∀ j, j < nr → hI h (m + 2) j = M 2 j := fun j hj => (HC.2.2.1.2.1 j hj).2.1
  have hl1 : 1 ≤ 2 ^ nr := Nat.one_le_two_pow
  unfold aRings at kk
  refine wX12_rings (by omega) m w ?_
  simp only [rt_i, rt_b0, rt_b1, rt_v, rt_l, rt_o, rt_a, rV_none, rI_some, rL_some, rR_some, rT_some, rt_bI, hIf_sL, hIf_sR, hS_sI, hS_sL, hS_sR, hS_cpI, hR_sI, hR_sL, hR_cpI, hL_sI, hL_sR, hL_cpI, hI_sL, hI_sR, hN_sI, hN_sL, hN_sR, hN_cpI, hU_sI, hU_sL, hU_sR, hU_cpI, tn0, tn1, tn2, tn3, tn4, tn5, tn6, tn7, tn8, tn9, tn10, tn11, tn12, tn13, tn14, tn15, tn16, tn17, tn18, tn19, tn20, tn21, tn22, tn23, tn24, tn25, tn26, tn27, tn28, tn29, tn30, tn31, tn32, tn33, tn34, tn35, tn36, tn37, tn38, tn39, tn40, tn41, tn42, tn43, tn44, tn45, tn46, tn47, tn48, tn49, tn50, tn51, tn52, tn53, tn54, tn55, tn56, tn57, tn58, tn59, tn60, lH_eq, true_and, and_true, mdq_0 HC.1]
  refine m_isHill (by omega) m HC.1 ?_
  simp only [rI_some, bI0, mdq_0 HC.1, true_and, e0]
  refine ⟨fun z => by rwa [if_neg (fun y => z y.1)] at kk, fun z => ?_⟩
  refine m_in32 (by omega) w 0 1 rfl rfl rfl ?_
  simp only [rI_some, bI0, mdq_0 HC.1, true_and]
  refine ⟨fun y => ?_, fun y => by rwa [if_neg (fun x => y x.2)] at kk⟩
  rw [if_pos ⟨Decidable.not_not.mp z, Decidable.not_not.mp y⟩] at kk
  exact ri_loop (by omega) m nr (M 2) w HC.1 HC.2.1.1 hr5 hf rfl rfl kk (2 ^ nr - 1) 1 (by omega) (Nat.le_refl 1)

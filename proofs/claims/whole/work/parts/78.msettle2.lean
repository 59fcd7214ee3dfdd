theorem or_add : ∀ n, n < 5 → ∀ s, s < 2 ^ n → (nI s ||| nI (2 ^ n) : Int32) = nI (s + 2 ^ n) := by decide +kernel
theorem or_0 : ∀ s, s < 32 → (nI s ||| 0 : Int32) = nI s := by decide +kernel
theorem an_not : ∀ s, s < 32 → ∀ r, r < 5 → s.testBit r = true → (nI s &&& (nI (2 ^ r) ^^^ (-1)) : Int32) = nI (s - 2 ^ r) := by decide +kernel
/-- what the reference answers of settling -/
noncomputable def aSettle (nr : Nat) (A M : PC) : Int32 := if 0 < A 0 0 then (if tgF (M 2) (2 ^ nr - 1) nr = 0 then nI nr - nI (dpT (M 2) nr (2 ^ nr) (2 ^ nr - 1)) else -2) else -1
theorem se78 {d E1 E2 : Nat} {Q : Option Value → AH → Prop} {h : AH} (hd : 6 ≤ d) (m nr s al : Nat) (f : Nat → Int32) (H : ModAt h m) (hn : hI h (m + 1) 1 = nI nr) (hr : nr ≤ 5) (hs : s < 32) (hs0 : 0 < s) (hf : ∀ j, j < nr → hI h (m + 2) j = f j) (T : Nat → Nat) (hT : ∀ j, j < s → hI h (m + 37) j = nI (T j)) (hT2 : ∀ j, j < s → T j ≤ 31) (k : Reach d nX12_settle (68, [.ref m, .int (nI al), .int (nI (s + 1)), .float 0, .float 0, .float 0], []) (sI h (m + 37) s (nI (mxF T s nr + (if tgF f s nr = 0 then 1 else 0)))) E1 E2 Q) : ∀ n i : Nat, i + n = nr → Reach d nX12_settle (78, [.ref m, .int (nI al), .int (nI s), .int (nI (mxF T s i)), .int (nI i), .float 0], []) h E1 E2 Q
  | 0, i, hi => by
    have : i = nr := by omega
    subst this
    refine wX12_settle_78 (by omega) m (nI al) (nI s) _ (nI i) ?_
    simp only [rt_i, rt_b0, rt_b1, rt_v, rt_l, rt_o, rt_a, rV_none, rI_some, rL_some, rR_some, rT_some, rt_bI, hIf_sL, hIf_sR, hS_sI, hS_sL, hS_sR, hS_cpI, hR_sI, hR_sL, hR_cpI, hL_sI, hL_sR, hL_cpI, hI_sL, hI_sR, hN_sI, hN_sL, hN_sR, hN_cpI, hU_sI, hU_sL, hU_sR, hU_cpI, tn0, tn1, tn2, tn3, tn4, tn5, tn6, tn7, tn8, tn9, tn10, tn11, tn12, tn13, tn14, tn15, tn16, tn17, tn18, tn19, tn20, tn21, tn22, tn23, tn24, tn25, tn26, tn27, tn28, tn29, tn30, tn31, tn32, tn33, tn34, tn35, tn36, tn37, tn38, tn39, tn40, tn41, tn42, tn43, tn44, tn45, tn46, tn47, tn48, tn49, tn50, tn51, tn52, tn53, tn54, tn55, tn56, tn57, tn58, tn59, tn60, lH_eq, true_and, and_true, mdq_0 H, mdq_1 H, mds_1 H, mdq_2 H, mds_2 H, mdq_50 H, mds_50 H, vl7_0, vl7_1, vl7_2, vl7_3, vl7_4, vl7_5, vl7_6, hn, nI_le_iff (show i < 2 ^ 31 by omega) (show i < 2 ^ 31 by omega), nI_1]
    refine ⟨fun _ => ?_, fun z => absurd (Nat.le_refl i) z⟩
    refine m_sumOf (by omega) m i s f H hn hr hs hf ?_
    simp only [rI_some, rt_i, rt_b0, rt_b1, rt_v, rt_l, rt_o, rt_a, rV_none, rI_some, rL_some, rR_some, rT_some, rt_bI, hIf_sL, hIf_sR, hS_sI, hS_sL, hS_sR, hS_cpI, hR_sI, hR_sL, hR_cpI, hL_sI, hL_sR, hL_cpI, hI_sL, hI_sR, hN_sI, hN_sL, hN_sR, hN_cpI, hU_sI, hU_sL, hU_sR, hU_cpI, tn0, tn1, tn2, tn3, tn4, tn5, tn6, tn7, tn8, tn9, tn10, tn11, tn12, tn13, tn14, tn15, tn16, tn17, tn18, tn19, tn20, tn21, tn22, tn23, tn24, tn25, tn26, tn27, tn28, tn29, tn30, tn31, tn32, tn33, tn34, tn35, tn36, tn37, tn38, tn39, tn40, tn41, tn42, tn43, tn44, tn45, tn46, tn47, tn48, tn49, tn50, tn51, tn52, tn53, tn54, tn55, tn56, tn57, tn58, tn59, tn60, lH_eq, true_and, and_true, mds_50 H, vp_in_nI (show s < 32 by omega) (show 32 < 2 ^ 31 by omega), nI_clamp (show s < 2 ^ 31 by omega), Int32.add_zero, nI_1]
    refine ⟨fun z => ?_, fun z => ?_⟩
    · rwa [if_neg z] at k
    · rw [if_pos z] at k
      exact k
  | n + 1, i, hi => by
    have ih := se78 hd m nr s al f H hn hr hs hs0 hf T hT hT2 k n (i + 1) (by omega)
    have hm31 : ∀ r, mxF T s r ≤ 31 := fun r => mx_le r (fun q _ c => hT2 _ (by have := tb_le c; have : 0 < 2 ^ q := Nat.two_pow_pos q; omega))
    have hm := hm31 i
    refine wX12_settle_78 (by omega) m (nI al) (nI s) _ (nI i) ?_
    simp only [rt_i, rt_b0, rt_b1, rt_v, rt_l, rt_o, rt_a, rV_none, rI_some, rL_some, rR_some, rT_some, rt_bI, hIf_sL, hIf_sR, hS_sI, hS_sL, hS_sR, hS_cpI, hR_sI, hR_sL, hR_cpI, hL_sI, hL_sR, hL_cpI, hI_sL, hI_sR, hN_sI, hN_sL, hN_sR, hN_cpI, hU_sI, hU_sL, hU_sR, hU_cpI, tn0, tn1, tn2, tn3, tn4, tn5, tn6, tn7, tn8, tn9, tn10, tn11, tn12, tn13, tn14, tn15, tn16, tn17, tn18, tn19, tn20, tn21, tn22, tn23, tn24, tn25, tn26, tn27, tn28, tn29, tn30, tn31, tn32, tn33, tn34, tn35, tn36, tn37, tn38, tn39, tn40, tn41, tn42, tn43, tn44, tn45, tn46, tn47, tn48, tn49, tn50, tn51, tn52, tn53, tn54, tn55, tn56, tn57, tn58, tn59, tn60, lH_eq, true_and, and_true, mdq_0 H, mdq_1 H, mds_1 H, mdq_2 H, mds_2 H, mdq_50 H, mds_50 H, vl7_0, vl7_1, vl7_2, vl7_3, vl7_4, vl7_5, vl7_6, hn, nI_le_iff (show nr < 2 ^ 31 by omega) (show i < 2 ^ 31 by omega), nI_1]
    simp only [mxF] at ih
    refine ⟨fun z => absurd z (by omega), fun _ => ?_⟩
    refine m_has (by omega) s i hs (by omega) ?_
    have h0 : ((0 : Int32) ≤ nI (mxF T s i)) = (0 ≤ mxF T s i) := nI_le_iff (a := 0) (by decide) (by omega)
    simp only [rI_some, bI0, rt_i, rt_b0, rt_b1, rt_v, rt_l, rt_o, rt_a, rV_none, rI_some, rL_some, rR_some, rT_some, rt_bI, hIf_sL, hIf_sR, hS_sI, hS_sL, hS_sR, hS_cpI, hR_sI, hR_sL, hR_cpI, hL_sI, hL_sR, hL_cpI, hI_sL, hI_sR, hN_sI, hN_sL, hN_sR, hN_cpI, hU_sI, hU_sL, hU_sR, hU_cpI, tn0, tn1, tn2, tn3, tn4, tn5, tn6, tn7, tn8, tn9, tn10, tn11, tn12, tn13, tn14, tn15, tn16, tn17, tn18, tn19, tn20, tn21, tn22, tn23, tn24, tn25, tn26, tn27, tn28, tn29, tn30, tn31, tn32, tn33, tn34, tn35, tn36, tn37, tn38, tn39, tn40, tn41, tn42, tn43, tn44, tn45, tn46, tn47, tn48, tn49, tn50, tn51, tn52, tn53, tn54, tn55, tn56, tn57, tn58, tn59, tn60, lH_eq, true_and, and_true, mdq_0 H, mdq_50 H, mds_50 H, h0, sh5 i (by omega)]
    refine ⟨fun z => ⟨fun _ => ?_, fun y => absurd (Nat.zero_le _) y⟩, fun z => ?_⟩
    · rwa [if_neg z] at ih
    · have z := Decidable.not_not.mp z
      have h1 := tb_le z
      have h2 : 0 < 2 ^ i := Nat.two_pow_pos i
      have hlt := hT2 (s - 2 ^ i) (by omega)
      rw [an_not s hs i (by omega) z, nI_clamp (by omega), hT _ (by omega)]
      refine ⟨vp_in_nI (by omega) (by decide), ?_⟩
      rw [if_pos z] at ih
      simp only [nI_le_iff (show T (s - 2 ^ i) < 2 ^ 31 by omega) (show mxF T s i < 2 ^ 31 by omega)]
      refine ⟨fun y => ?_, fun y => ?_⟩
      · rwa [if_neg (by omega)] at ih
      · rwa [if_pos (by omega)] at ih
theorem se68 {d E1 E2 : Nat} {Q : Option Value → AH → Prop} (hd : 6 ≤ d) (m nr al : Nat) (f : Nat → Int32) (hr : nr ≤ 5) (hal : al < 32) (h00 : AH) (e1 : hN h00 = E1) (e2 : hU h00 = E2) (k : ∀ h', Fr' h00 h' (fun c => c = m + 37) → Q (some (.int (nI (popN al) - nI (dD f nr al)))) h') : ∀ (n s : Nat) (h : AH), s + n = al + 1 → 1 ≤ s → Fr' h00 h (fun c => c = m + 37) → ModAt h m → hI h (m + 1) 1 = nI nr → (∀ j, j < nr → hI h (m + 2) j = f j) → (∀ j, j < s → hI h (m + 37) j = nI (dpT f nr s j)) → Reach d nX12_settle (68, [.ref m, .int (nI al), .int (nI s), .float 0, .float 0, .float 0], []) h E1 E2 Q
  | 0, s, h, hs, hs1, fr, H, hn, hf, hT => by
    have : s = al + 1 := by omega
    subst this
    refine wX12_settle_68 (by omega) m (nI al) _ ?_
    simp only [nI_lt_iff (show al < 2 ^ 31 by omega) (show al + 1 < 2 ^ 31 by omega)]
    refine ⟨fun _ => ?_, fun z => absurd (Nat.lt_succ_self al) z⟩
    refine m_bits (by omega) al hal ?_
    simp only [rI_some, rt_i, rt_b0, rt_b1, rt_v, rt_l, rt_o, rt_a, rV_none, rI_some, rL_some, rR_some, rT_some, rt_bI, hIf_sL, hIf_sR, hS_sI, hS_sL, hS_sR, hS_cpI, hR_sI, hR_sL, hR_cpI, hL_sI, hL_sR, hL_cpI, hI_sL, hI_sR, hN_sI, hN_sL, hN_sR, hN_cpI, hU_sI, hU_sL, hU_sR, hU_cpI, tn0, tn1, tn2, tn3, tn4, tn5, tn6, tn7, tn8, tn9, tn10, tn11, tn12, tn13, tn14, tn15, tn16, tn17, tn18, tn19, tn20, tn21, tn22, tn23, tn24, tn25, tn26, tn27, tn28, tn29, tn30, tn31, tn32, tn33, tn34, tn35, tn36, tn37, tn38, tn39, tn40, tn41, tn42, tn43, tn44, tn45, tn46, tn47, tn48, tn49, tn50, tn51, tn52, tn53, tn54, tn55, tn56, tn57, tn58, tn59, tn60, lH_eq, true_and, and_true, mdq_0 H, mdq_50 H, mds_50 H, vp_in_nI (show al < 32 by omega) (show 32 < 2 ^ 31 by omega), nI_clamp (show al < 2 ^ 31 by omega), hT al (by omega)]
    exact ⟨fr.2.2.1.trans e1, fr.2.2.2.1.trans e2, k h fr⟩
  | n + 1, s, h, hs, hs1, fr, H, hn, hf, hT => by
    refine wX12_settle_68 (by omega) m (nI al) _ ?_
    simp only [nI_lt_iff (show al < 2 ^ 31 by omega) (show s < 2 ^ 31 by omega)]
    refine ⟨fun z => absurd z (by omega), fun _ => ?_⟩
    have ed := dD_s f nr s (by omega)
    refine se78 hd m nr s al f H hn hr (by omega) (by omega) hf (dpT f nr s) hT (fun j hj => by have := dpT_le f nr s j; omega) ?_ nr 0 (by omega)
    rw [← ed]
    refine se68 hd m nr al f hr hal h00 e1 e2 k n (s + 1) _ (by omega) (by omega) (fr.trans (Fr'.sI rfl)) (H.fr (Fr'.sI (S := fun c => c = m + 37) rfl)) (by rw [hI_sI, if_neg (by omega)]; exact hn) (fun j hj => by rw [hI_sI, if_neg (by omega)]; exact hf j hj) (fun j hj => ?_)
    rw [hI_sI, if_pos rfl]
    by_cases c : j = s
    · rw [if_pos c, c]; rfl
    · rw [if_neg c, hT j (by omega)]
      simp [dpT, c]
theorem se13 {d E1 E2 : Nat} {Q : Option Value → AH → Prop} {h : AH} (hd : 7 ≤ d) (m nr : Nat) (f : Nat → Int32) (H : ModAt h m) (hn : hI h (m + 1) 1 = nI nr) (hr : nr ≤ 5) (hf : ∀ j, j < nr → hI h (m + 2) j = f j) (e1 : hN h = E1) (e2 : hU h = E2) (k : ∀ h', Fr' h h' (fun c => c = m + 37) → Q (some (.int (if tgF f (2 ^ nr - 1) nr = 0 then nI nr - nI (dpT f nr (2 ^ nr) (2 ^ nr - 1)) else -2))) h') : ∀ n i : Nat, i + n = nr → Reach d nX12_settle (13, [.ref m, .int (nI (nzF f i)), .int (nI i), .float 0, .float 0, .float 0], []) h E1 E2 Q
  | 0, i, hi => by
    have : i = nr := by omega
    subst this
    have hl : 2 ^ i ≤ 2 ^ 5 := Nat.pow_le_pow_right (by decide) hr
    have hlt := nzF_lt f i
    obtain ⟨q1, q2⟩ := settle_eq f i hr
    rw [← q1, ← q2] at k
    refine wX12_settle_13 (by omega) m _ (nI i) ?_
    simp only [rt_i, rt_b0, rt_b1, rt_v, rt_l, rt_o, rt_a, rV_none, rI_some, rL_some, rR_some, rT_some, rt_bI, hIf_sL, hIf_sR, hS_sI, hS_sL, hS_sR, hS_cpI, hR_sI, hR_sL, hR_cpI, hL_sI, hL_sR, hL_cpI, hI_sL, hI_sR, hN_sI, hN_sL, hN_sR, hN_cpI, hU_sI, hU_sL, hU_sR, hU_cpI, tn0, tn1, tn2, tn3, tn4, tn5, tn6, tn7, tn8, tn9, tn10, tn11, tn12, tn13, tn14, tn15, tn16, tn17, tn18, tn19, tn20, tn21, tn22, tn23, tn24, tn25, tn26, tn27, tn28, tn29, tn30, tn31, tn32, tn33, tn34, tn35, tn36, tn37, tn38, tn39, tn40, tn41, tn42, tn43, tn44, tn45, tn46, tn47, tn48, tn49, tn50, tn51, tn52, tn53, tn54, tn55, tn56, tn57, tn58, tn59, tn60, lH_eq, true_and, and_true, mdq_0 H, mdq_1 H, mds_1 H, mdq_2 H, mds_2 H, mdq_50 H, mds_50 H, vl7_0, vl7_1, vl7_2, vl7_3, vl7_4, vl7_5, vl7_6, hn, nI_le_iff (show i < 2 ^ 31 by omega) (show i < 2 ^ 31 by omega)]
    refine ⟨fun _ => ?_, fun z => absurd (Nat.le_refl i) z⟩
    refine m_sumOf (by omega) m i (nzF f i) f H hn hr (by omega) hf ?_
    simp only [rI_some, rt_i, rt_b0, rt_b1, rt_v, rt_l, rt_o, rt_a, rV_none, rI_some, rL_some, rR_some, rT_some, rt_bI, hIf_sL, hIf_sR, hS_sI, hS_sL, hS_sR, hS_cpI, hR_sI, hR_sL, hR_cpI, hL_sI, hL_sR, hL_cpI, hI_sL, hI_sR, hN_sI, hN_sL, hN_sR, hN_cpI, hU_sI, hU_sL, hU_sR, hU_cpI, tn0, tn1, tn2, tn3, tn4, tn5, tn6, tn7, tn8, tn9, tn10, tn11, tn12, tn13, tn14, tn15, tn16, tn17, tn18, tn19, tn20, tn21, tn22, tn23, tn24, tn25, tn26, tn27, tn28, tn29, tn30, tn31, tn32, tn33, tn34, tn35, tn36, tn37, tn38, tn39, tn40, tn41, tn42, tn43, tn44, tn45, tn46, tn47, tn48, tn49, tn50, tn51, tn52, tn53, tn54, tn55, tn56, tn57, tn58, tn59, tn60, lH_eq, true_and, and_true, mdq_0 H, mdq_50 H, mds_50 H]
    refine ⟨fun z => ?_, fun z => ?_⟩
    · refine ⟨vp_in_nI (n := 0) (N := 32) (by decide) (by decide), ?_⟩
      refine se68 (by omega) m i (nzF f i) f hr (by omega) h e1 e2 (fun h' fr => ?_) (nzF f i) 1 _ (by omega) (Nat.le_refl 1) (Fr'.sI rfl) (H.fr (Fr'.sI (S := fun c => c = m + 37) rfl)) (by rw [hI_sI, if_neg (by omega)]; exact hn) (fun j hj => by rw [hI_sI, if_neg (by omega)]; exact hf j hj) (fun j hj => ?_)
      · have := k h' fr
        rwa [if_pos z] at this
      · have : j = 0 := by omega
        subst this
        rw [hI_sI, if_pos rfl]
        rfl
    · have := k h (Fr'.refl _ _)
      rw [if_neg z] at this
      exact ⟨e1, e2, this⟩
  | n + 1, i, hi => by
    have ih := se13 hd m nr f H hn hr hf e1 e2 k n (i + 1) (by omega)
    have hl : 2 ^ i ≤ 2 ^ 4 := Nat.pow_le_pow_right (by decide) (by omega)
    have hlt := nzF_lt f i
    refine wX12_settle_13 (by omega) m _ (nI i) ?_
    simp only [rt_i, rt_b0, rt_b1, rt_v, rt_l, rt_o, rt_a, rV_none, rI_some, rL_some, rR_some, rT_some, rt_bI, hIf_sL, hIf_sR, hS_sI, hS_sL, hS_sR, hS_cpI, hR_sI, hR_sL, hR_cpI, hL_sI, hL_sR, hL_cpI, hI_sL, hI_sR, hN_sI, hN_sL, hN_sR, hN_cpI, hU_sI, hU_sL, hU_sR, hU_cpI, tn0, tn1, tn2, tn3, tn4, tn5, tn6, tn7, tn8, tn9, tn10, tn11, tn12, tn13, tn14, tn15, tn16, tn17, tn18, tn19, tn20, tn21, tn22, tn23, tn24, tn25, tn26, tn27, tn28, tn29, tn30, tn31, tn32, tn33, tn34, tn35, tn36, tn37, tn38, tn39, tn40, tn41, tn42, tn43, tn44, tn45, tn46, tn47, tn48, tn49, tn50, tn51, tn52, tn53, tn54, tn55, tn56, tn57, tn58, tn59, tn60, lH_eq, true_and, and_true, mdq_0 H, mdq_1 H, mds_1 H, mdq_2 H, mds_2 H, mdq_50 H, mds_50 H, vl7_0, vl7_1, vl7_2, vl7_3, vl7_4, vl7_5, vl7_6, hn, nI_le_iff (show nr < 2 ^ 31 by omega) (show i < 2 ^ 31 by omega), vp_in_nI (show i < 5 by omega) (show 5 < 2 ^ 31 by omega), nI_clamp (show i < 2 ^ 31 by omega), hf i (by omega), sh5 i (by omega), or_add i (by omega) (nzF f i) hlt, or_0 (nzF f i) (by omega), nI_1]
    simp only [nzF] at ih
    refine ⟨fun z => absurd z (by omega), fun _ => ⟨fun z => ?_, fun z => ?_⟩⟩
    · rwa [if_pos z] at ih
    · rwa [if_neg z] at ih
theorem m_settle {d : Nat} {h : AH} {Q : Option Value → AH → Prop} (hd : 8 ≤ d) (m nr nw : Nat) (A M : PC) (R : Option (List (List (Nat × Nat) × List (Nat × Nat)))) (H : QK h m nr nw A M R) (kk : ∀ h', Fr' h h' (fun c => c = m + 37) → Q (some (.int (aSettle nr A M))) h') : Calls d nX12_settle [.ref m] h (hN h) (hU h) Q := by
  obtain ⟨e, rfl⟩ : ∃ e, d = e + 1 := ⟨d - 1, by omega⟩
  obtain ⟨HC, H5, hr5, hw6, hh⟩ := H
  have e0 : hI h (m + 1) 0 = A 0 0 := HC.2.1.2.2.1.1
  have hf : ∀ j, j < nr → hI h (m + 2) j = M 2 j := fun j hj => (HC.2.2.1.2.1 j hj).2.1
  unfold aSettle at kk
  refine wX12_settle (by omega) m ?_
  simp only [rt_i, rt_b0, rt_b1, rt_v, rt_l, rt_o, rt_a, rV_none, rI_some, rL_some, rR_some, rT_some, rt_bI, hIf_sL, hIf_sR, hS_sI, hS_sL, hS_sR, hS_cpI, hR_sI, hR_sL, hR_cpI, hL_sI, hL_sR, hL_cpI, hI_sL, hI_sR, hN_sI, hN_sL, hN_sR, hN_cpI, hU_sI, hU_sL, hU_sR, hU_cpI, tn0, tn1, tn2, tn3, tn4, tn5, tn6, tn7, tn8, tn9, tn10, tn11, tn12, tn13, tn14, tn15, tn16, tn17, tn18, tn19, tn20, tn21, tn22, tn23, tn24, tn25, tn26, tn27, tn28, tn29, tn30, tn31, tn32, tn33, tn34, tn35, tn36, tn37, tn38, tn39, tn40, tn41, tn42, tn43, tn44, tn45, tn46, tn47, tn48, tn49, tn50, tn51, tn52, tn53, tn54, tn55, tn56, tn57, tn58, tn59, tn60, lH_eq, true_and, and_true, mdq_0 HC.1]
  refine m_isHill (by omega) m HC.1 ?_
  simp only [rI_some, bI0, mdq_0 HC.1, true_and, e0]
  refine ⟨fun z => ?_, fun z => ?_⟩
  · rw [if_pos (Decidable.not_not.mp z)] at kk
    exact se13 (by omega) m nr (M 2) HC.1 HC.2.1.1 hr5 hf rfl rfl kk nr 0 (by omega)
  · rw [if_neg z] at kk
    exact kk h (Fr'.refl _ _)

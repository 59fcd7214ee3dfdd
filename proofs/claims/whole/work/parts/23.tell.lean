theorem hiq_0 {h : AH} {a : Nat} (H : HillAt h a) : hS h a = (13, 8) := H.1
theorem hiq_1 {h : AH} {a : Nat} (H : HillAt h a) : hR h a 3 = a + 1 := H.2.1
theorem hiq_2 {h : AH} {a : Nat} (H : HillAt h a) : hR h a 4 = a + 2 := H.2.2.1
theorem hiq_3 {h : AH} {a : Nat} (H : HillAt h a) : hR h a 5 = a + 3 := H.2.2.2.1
theorem hiq_4 {h : AH} {a : Nat} (H : HillAt h a) : hR h a 6 = a + 4 := H.2.2.2.2.1
theorem hiq_5 {h : AH} {a : Nat} (H : HillAt h a) : hR h a 7 = a + 5 := H.2.2.2.2.2.1
theorem hiq_6 {h : AH} {a : Nat} (H : HillAt h a) : hS h (a + 1) = (1, 5) := H.2.2.2.2.2.2.1
theorem hiq_7 {h : AH} {a : Nat} (H : HillAt h a) : hS h (a + 2) = (1, 5) := H.2.2.2.2.2.2.2.1
theorem hiq_8 {h : AH} {a : Nat} (H : HillAt h a) : hS h (a + 3) = (1, 6) := H.2.2.2.2.2.2.2.2.1
theorem hiq_9 {h : AH} {a : Nat} (H : HillAt h a) : hS h (a + 4) = (1, 6) := H.2.2.2.2.2.2.2.2.2.1
theorem hiq_10 {h : AH} {a : Nat} (H : HillAt h a) : hS h (a + 5) = (1, 6) := H.2.2.2.2.2.2.2.2.2.2
theorem moq_0 {h : AH} {a : Nat} (H : MomAt h a) : hS h a = (14, 6) := H.1
theorem moq_1 {h : AH} {a : Nat} (H : MomAt h a) : hR h a 1 = a + 1 := H.2.1
theorem moq_2 {h : AH} {a : Nat} (H : MomAt h a) : hR h a 2 = a + 2 := H.2.2.1
theorem moq_3 {h : AH} {a : Nat} (H : MomAt h a) : hR h a 3 = a + 3 := H.2.2.2.1
theorem moq_4 {h : AH} {a : Nat} (H : MomAt h a) : hR h a 4 = a + 4 := H.2.2.2.2.1
theorem moq_5 {h : AH} {a : Nat} (H : MomAt h a) : hR h a 5 = a + 5 := H.2.2.2.2.2.1
theorem moq_6 {h : AH} {a : Nat} (H : MomAt h a) : hS h (a + 1) = (1, 5) := H.2.2.2.2.2.2.1
theorem moq_7 {h : AH} {a : Nat} (H : MomAt h a) : hS h (a + 2) = (1, 5) := H.2.2.2.2.2.2.2.1
theorem moq_8 {h : AH} {a : Nat} (H : MomAt h a) : hS h (a + 3) = (1, 5) := H.2.2.2.2.2.2.2.2.1
theorem moq_9 {h : AH} {a : Nat} (H : MomAt h a) : hS h (a + 4) = (1, 6) := H.2.2.2.2.2.2.2.2.2.1
theorem moq_10 {h : AH} {a : Nat} (H : MomAt h a) : hS h (a + 5) = (1, 6) := H.2.2.2.2.2.2.2.2.2.2
theorem coq_0 {h : AH} {a : Nat} (H : CouAt h a) : hS h a = (11, 4) := H.1
theorem coq_1 {h : AH} {a : Nat} (H : CouAt h a) : hR h a 0 = a + 1 := H.2.1
theorem coq_2 {h : AH} {a : Nat} (H : CouAt h a) : hR h a 1 = a + 2 := H.2.2.1
theorem coq_3 {h : AH} {a : Nat} (H : CouAt h a) : hR h a 2 = a + 3 := H.2.2.2.1
theorem coq_4 {h : AH} {a : Nat} (H : CouAt h a) : hR h a 3 = a + 4 := H.2.2.2.2.1
theorem coq_5 {h : AH} {a : Nat} (H : CouAt h a) : hS h (a + 1) = (1, 5) := H.2.2.2.2.2.1
theorem coq_6 {h : AH} {a : Nat} (H : CouAt h a) : hS h (a + 2) = (1, 5) := H.2.2.2.2.2.2.1
theorem coq_7 {h : AH} {a : Nat} (H : CouAt h a) : hS h (a + 3) = (4, 12) := H.2.2.2.2.2.2.2.1
theorem coq_8 {h : AH} {a : Nat} (H : CouAt h a) : hS h (a + 4) = (4, 60) := H.2.2.2.2.2.2.2.2
/-! the words that a rule asks for -/
theorem sp_tellRunner {d : Nat} {h : AH} {Q : Option Value → AH → Prop} (hd : 6 ≤ d) (c a m r nr : Nat) (HC : CouAt h c) (H : HillAt h a) (HM : MomAt h m) (hr : r < nr) (hn : hI h a 1 = nI nr) (hr5 : nr ≤ 5) (k : ∀ h', Fr' h h' (fun b => b = c + 3) → hL h' (c + 3) 0 = (nI r).toInt64 → hL h' (c + 3) 2 = (hI h (m + 1) r).toInt64 → hL h' (c + 3) 3 = (hI h (m + 2) r).toInt64 → hL h' (c + 3) 8 = (if nr < 2 then (0 : Int32) else hI h (m + 2) r - ldF (hI h (m + 2)) r nr).toInt64 → hL h' (c + 3) 9 = (hI h (m + 3) r).toInt64 → hL h' (c + 3) 10 = (if 0 < hI h a 0 then hI h a 0 - 1 - irm (hI h m 0) (hI h a 0) else 0).toInt64 → hL h' (c + 3) 11 = (hI h m 0).toInt64 → Q none h') : Calls d nX1_tellRunner [.ref c, .ref a, .ref m, .int (nI r)] h (hN h) (hU h) Q := by
  obtain ⟨e, rfl⟩ : ∃ e, d = e + 1 := ⟨d - 1, by omega⟩
  refine wX1_tellRunner (by omega) c a m (nI r) ?_
  have v12 : ∀ i : Nat, i < 12 → vp_in (nI i) 12 := fun i hi => vp_in_nI hi (by decide)
  simp only [rt_i, rt_b0, rt_b1, rt_v, rt_l, rt_o, rt_a, rV_none, rI_some, rL_some, rR_some, rT_some, hS_sI, hS_sL, hS_sR, hS_cpI, hR_sI, hR_sL, hR_cpI, hL_sI, hL_sR, hL_cpI, hI_sL, hI_sR, hN_sI, hN_sL, hN_sR, hN_cpI, hU_sI, hU_sL, hU_sR, hU_cpI, tn0, tn1, tn2, tn3, tn4, tn5, tn6, tn7, tn8, tn9, tn10, tn11, tn12, tn13, tn14, tn15, tn16, tn17, tn18, tn19, tn20, tn21, tn22, tn23, tn24, tn25, tn26, tn27, tn28, tn29, tn30, tn31, tn32, tn33, tn34, tn35, tn36, tn37, tn38, tn39, tn40, tn41, tn42, tn43, tn44, tn45, tn46, tn47, tn48, tn49, tn50, tn51, tn52, tn53, tn54, tn55, tn56, tn57, tn58, tn59, tn60, lH_eq, true_and, hiq_0 H, hiq_1 H, hiq_2 H, hiq_3 H, hiq_4 H, hiq_5 H, hiq_6 H, hiq_7 H, hiq_8 H, hiq_9 H, hiq_10 H, moq_0 HM, moq_1 HM, moq_2 HM, moq_3 HM, moq_4 HM, moq_5 HM, moq_6 HM, moq_7 HM, moq_8 HM, moq_9 HM, moq_10 HM, coq_0 HC, coq_1 HC, coq_2 HC, coq_3 HC, coq_4 HC, coq_5 HC, coq_6 HC, coq_7 HC, coq_8 HC, vp_in_nI (show r < 5 by omega) (show 5 < 2 ^ 31 by omega), nI_clamp (show r < 2 ^ 31 by omega), hI_sL, show vp_in 0 12 from v12 0 (by omega), show vp_in 2 12 from v12 2 (by omega), show vp_in 3 12 from v12 3 (by omega)]
  refine sp_leadOf (by omega) a m r nr H HM hn hr5 hr ?_
  simp only [rt_i, rt_b0, rt_b1, rt_v, rt_l, rt_o, rt_a, rV_none, rI_some, rL_some, rR_some, rT_some, hS_sI, hS_sL, hS_sR, hS_cpI, hR_sI, hR_sL, hR_cpI, hL_sI, hL_sR, hL_cpI, hI_sL, hI_sR, hN_sI, hN_sL, hN_sR, hN_cpI, hU_sI, hU_sL, hU_sR, hU_cpI, tn0, tn1, tn2, tn3, tn4, tn5, tn6, tn7, tn8, tn9, tn10, tn11, tn12, tn13, tn14, tn15, tn16, tn17, tn18, tn19, tn20, tn21, tn22, tn23, tn24, tn25, tn26, tn27, tn28, tn29, tn30, tn31, tn32, tn33, tn34, tn35, tn36, tn37, tn38, tn39, tn40, tn41, tn42, tn43, tn44, tn45, tn46, tn47, tn48, tn49, tn50, tn51, tn52, tn53, tn54, tn55, tn56, tn57, tn58, tn59, tn60, lH_eq, true_and, hiq_0 H, hiq_1 H, hiq_2 H, hiq_3 H, hiq_4 H, hiq_5 H, hiq_6 H, hiq_7 H, hiq_8 H, hiq_9 H, hiq_10 H, moq_0 HM, moq_1 HM, moq_2 HM, moq_3 HM, moq_4 HM, moq_5 HM, moq_6 HM, moq_7 HM, moq_8 HM, moq_9 HM, moq_10 HM, coq_0 HC, coq_1 HC, coq_2 HC, coq_3 HC, coq_4 HC, coq_5 HC, coq_6 HC, coq_7 HC, coq_8 HC, vp_in_nI (show r < 5 by omega) (show 5 < 2 ^ 31 by omega), nI_clamp (show r < 2 ^ 31 by omega), hI_sL, show vp_in 8 12 from v12 8 (by omega), show vp_in 9 12 from v12 9 (by omega)]
  refine sp_daysTillFeast (by omega) a _ H ?_
  simp only [rt_i, rt_b0, rt_b1, rt_v, rt_l, rt_o, rt_a, rV_none, rI_some, rL_some, rR_some, rT_some, hS_sI, hS_sL, hS_sR, hS_cpI, hR_sI, hR_sL, hR_cpI, hL_sI, hL_sR, hL_cpI, hI_sL, hI_sR, hN_sI, hN_sL, hN_sR, hN_cpI, hU_sI, hU_sL, hU_sR, hU_cpI, tn0, tn1, tn2, tn3, tn4, tn5, tn6, tn7, tn8, tn9, tn10, tn11, tn12, tn13, tn14, tn15, tn16, tn17, tn18, tn19, tn20, tn21, tn22, tn23, tn24, tn25, tn26, tn27, tn28, tn29, tn30, tn31, tn32, tn33, tn34, tn35, tn36, tn37, tn38, tn39, tn40, tn41, tn42, tn43, tn44, tn45, tn46, tn47, tn48, tn49, tn50, tn51, tn52, tn53, tn54, tn55, tn56, tn57, tn58, tn59, tn60, lH_eq, true_and, hiq_0 H, hiq_1 H, hiq_2 H, hiq_3 H, hiq_4 H, hiq_5 H, hiq_6 H, hiq_7 H, hiq_8 H, hiq_9 H, hiq_10 H, moq_0 HM, moq_1 HM, moq_2 HM, moq_3 HM, moq_4 HM, moq_5 HM, moq_6 HM, moq_7 HM, moq_8 HM, moq_9 HM, moq_10 HM, coq_0 HC, coq_1 HC, coq_2 HC, coq_3 HC, coq_4 HC, coq_5 HC, coq_6 HC, coq_7 HC, coq_8 HC, hI_sL, show vp_in 10 12 from v12 10 (by omega), show vp_in 11 12 from v12 11 (by omega)]
  have g : ∀ (h1 : AH) i x, Fr' h h1 (fun b => b = c + 3) → Fr' h (sL h1 (c + 3) i x) (fun b => b = c + 3) := fun h1 i x f => f.trans (Fr'.sL rfl)
  refine k _ (g _ _ _ (g _ _ _ (g _ _ _ (g _ _ _ (g _ _ _ (g _ _ _ (g _ _ _ (Fr'.refl _ _)))))))) ?_ ?_ ?_ ?_ ?_ ?_ ?_ <;> simp only [hL_sL, if_true] <;> rfl
/-- how many of the first n go for a ware -/
def rvF (ai : Nat → Int32) (w : Nat) : Nat → Nat
  | 0 => 0
  | n + 1 => if ai n = nI w then rvF ai w n + 1 else rvF ai w n
theorem rvF_le (ai : Nat → Int32) (w : Nat) : ∀ n, rvF ai w n ≤ n
  | 0 => Nat.le_refl _
  | n + 1 => by have := rvF_le ai w n; unfold rvF; split <;> omega
theorem tw_loop {d E1 E2 : Nat} {Q : Option Value → AH → Prop} {h : AH} (hd : 4 ≤ d) (c a m r w : Nat) (HC : CouAt h c) (H : HillAt h a) (HM : MomAt h m) (hr : r < 5) (hw : w < 6) (e1 : hN h = E1) (e2 : hU h = E2) (k : ∀ h', Fr' h h' (fun b => b = c + 3) → hL h' (c + 3) 1 = (nI w).toInt64 → hL h' (c + 3) 4 = (hI h (m + 4) w).toInt64 → hL h' (c + 3) 5 = (hI h (a + 4) w).toInt64 → hL h' (c + 3) 6 = (nI (rvF (hI h (c + 2)) w r)).toInt64 → hL h' (c + 3) 7 = (if 0 < hI h (m + 1) r then hI h (m + 4) w / hI h (m + 1) r else 0).toInt64 → (∀ j, j ≠ 1 → j ≠ 4 → j ≠ 5 → j ≠ 6 → j ≠ 7 → hL h' (c + 3) j = hL h (c + 3) j) → Q none h') : ∀ n i : Nat, i + n = r → Reach d nX1_tellWare (6, [.ref c, .ref a, .ref m, .int (nI r), .int (nI w), .int (nI (rvF (hI h (c + 2)) w i)), .int (nI i)], []) h E1 E2 Q
  | 0, i, hi => by
    have : i = r := by omega
    subst this
    refine wX1_tellWare_6 hd c a m (nI i) (nI w) _ (nI i) ?_
    have v12 : ∀ i : Nat, i < 12 → vp_in (nI i) 12 := fun i hi => vp_in_nI hi (by decide)
    simp only [rt_i, rt_b0, rt_b1, rt_v, rt_l, rt_o, rt_a, rV_none, rI_some, rL_some, rR_some, rT_some, hS_sI, hS_sL, hS_sR, hS_cpI, hR_sI, hR_sL, hR_cpI, hL_sI, hL_sR, hL_cpI, hI_sL, hI_sR, hN_sI, hN_sL, hN_sR, hN_cpI, hU_sI, hU_sL, hU_sR, hU_cpI, tn0, tn1, tn2, tn3, tn4, tn5, tn6, tn7, tn8, tn9, tn10, tn11, tn12, tn13, tn14, tn15, tn16, tn17, tn18, tn19, tn20, tn21, tn22, tn23, tn24, tn25, tn26, tn27, tn28, tn29, tn30, tn31, tn32, tn33, tn34, tn35, tn36, tn37, tn38, tn39, tn40, tn41, tn42, tn43, tn44, tn45, tn46, tn47, tn48, tn49, tn50, tn51, tn52, tn53, tn54, tn55, tn56, tn57, tn58, tn59, tn60, lH_eq, true_and, hiq_0 H, hiq_1 H, hiq_2 H, hiq_3 H, hiq_4 H, hiq_5 H, hiq_6 H, hiq_7 H, hiq_8 H, hiq_9 H, hiq_10 H, moq_0 HM, moq_1 HM, moq_2 HM, moq_3 HM, moq_4 HM, moq_5 HM, moq_6 HM, moq_7 HM, moq_8 HM, moq_9 HM, moq_10 HM, coq_0 HC, coq_1 HC, coq_2 HC, coq_3 HC, coq_4 HC, coq_5 HC, coq_6 HC, coq_7 HC, coq_8 HC, vp_in_nI (show i < 5 by omega) (show 5 < 2 ^ 31 by omega), nI_clamp (show i < 2 ^ 31 by omega), vp_in_nI (show w < 6 by omega) (show 6 < 2 ^ 31 by omega), nI_clamp (show w < 2 ^ 31 by omega), hI_sL, show vp_in 1 12 from v12 1 (by omega), show vp_in 4 12 from v12 4 (by omega), show vp_in 5 12 from v12 5 (by omega), show vp_in 6 12 from v12 6 (by omega), show vp_in 7 12 from v12 7 (by omega)]
    have g : ∀ (h1 : AH) i x, Fr' h h1 (fun b => b = c + 3) → Fr' h (sL h1 (c + 3) i x) (fun b => b = c + 3) := fun h1 i x f => f.trans (Fr'.sL rfl)
    refine ⟨fun _ => ⟨fun z => ?_, fun z => ⟨fun y => z (by rw [y]; decide), ?_⟩⟩, fun z => absurd (nI_le (Nat.le_refl i) (by omega)) z⟩
    · refine ⟨e1, e2, k _ (g _ _ _ (g _ _ _ (g _ _ _ (g _ _ _ (g _ _ _ (Fr'.refl _ _)))))) ?_ ?_ ?_ ?_ ?_ ?_⟩
      all_goals simp only [hL_sL, if_true, if_neg (Int32.not_lt.mpr z)]
      all_goals first | rfl | (intros; simp only [*, if_false])
    · refine ⟨e1, e2, k _ (g _ _ _ (g _ _ _ (g _ _ _ (g _ _ _ (g _ _ _ (Fr'.refl _ _)))))) ?_ ?_ ?_ ?_ ?_ ?_⟩
      all_goals simp only [hL_sL, if_true, if_pos (i32_lt_of z)]
      all_goals first | rfl | (intros; simp only [*, if_false])
  | n + 1, i, hi => by
    have ih := tw_loop hd c a m r w HC H HM hr hw e1 e2 k n (i + 1) (by omega)
    refine wX1_tellWare_6 hd c a m (nI r) (nI w) _ (nI i) ?_
    simp only [rt_i, rt_b0, rt_b1, rt_v, rt_l, rt_o, rt_a, rV_none, rI_some, rL_some, rR_some, rT_some, true_and, coq_0 HC, coq_1 HC, coq_2 HC, coq_3 HC, coq_4 HC, coq_5 HC, coq_6 HC, coq_7 HC, coq_8 HC, vp_in_nI (show i < 5 by omega) (show 5 < 2 ^ 31 by omega), nI_clamp (show i < 2 ^ 31 by omega), nI_le_iff (show r < 2 ^ 31 by omega) (show i < 2 ^ 31 by omega)]
    simp only [rvF, ← nI_1] at ih
    grind [nI_1]
theorem sp_tellWare {d : Nat} {h : AH} {Q : Option Value → AH → Prop} (hd : 5 ≤ d) (c a m r w : Nat) (HC : CouAt h c) (H : HillAt h a) (HM : MomAt h m) (hr : r < 5) (hw : w < 6) (k : ∀ h', Fr' h h' (fun b => b = c + 3) → hL h' (c + 3) 1 = (nI w).toInt64 → hL h' (c + 3) 4 = (hI h (m + 4) w).toInt64 → hL h' (c + 3) 5 = (hI h (a + 4) w).toInt64 → hL h' (c + 3) 6 = (nI (rvF (hI h (c + 2)) w r)).toInt64 → hL h' (c + 3) 7 = (if 0 < hI h (m + 1) r then hI h (m + 4) w / hI h (m + 1) r else 0).toInt64 → (∀ j, j ≠ 1 → j ≠ 4 → j ≠ 5 → j ≠ 6 → j ≠ 7 → hL h' (c + 3) j = hL h (c + 3) j) → Q none h') : Calls d nX1_tellWare [.ref c, .ref a, .ref m, .int (nI r), .int (nI w)] h (hN h) (hU h) Q := by
  obtain ⟨e, rfl⟩ : ∃ e, d = e + 1 := ⟨d - 1, by omega⟩
  exact wX1_tellWare (by omega) c a m (nI r) (nI w) (tw_loop (by omega) c a m r w HC H HM hr hw rfl rfl k r 0 (by omega))

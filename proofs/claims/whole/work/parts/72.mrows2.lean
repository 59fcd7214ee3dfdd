theorem cp_loop {d E1 E2 : Nat} {Q : Option Value → AH → Prop} (hd : 4 ≤ d) (a b n0 : Nat) (hab : a ≠ b) (hn0 : n0 < 2 ^ 30) : ∀ (n i : Nat) (h : AH), i + n = n0 → hS h a = (1, n0) → hS h b = (1, n0) → hN h = E1 → hU h = E2 → (∀ h', Fr' h h' (fun c => c = b) → (∀ j, hI h' b j = if i ≤ j ∧ j < n0 then hI h a j else hI h b j) → Q none h') → Reach d nX12_copies (2, [.ref a, .ref b, .int (nI i)], []) h E1 E2 Q
  | 0, i, h, hi, sa, sb, e1, e2, k => by
    have : i = n0 := by omega
    subst this
    refine wX12_copies_2 hd a b (nI i) ?_
    have h5 : (Int32.ofNat i ≤ nI i) = (i ≤ i) := nI_le_iff (by omega) (by omega)
    simp only [rt_i, rt_b0, rt_b1, rt_v, rt_l, rt_o, rt_a, rV_none, rI_some, rL_some, rR_some, rT_some, rt_bI, hIf_sL, hIf_sR, hS_sI, hS_sL, hS_sR, hS_cpI, hR_sI, hR_sL, hR_cpI, hL_sI, hL_sR, hL_cpI, hI_sL, hI_sR, hN_sI, hN_sL, hN_sR, hN_cpI, hU_sI, hU_sL, hU_sR, hU_cpI, tn0, tn1, tn2, tn3, tn4, tn5, tn6, tn7, tn8, tn9, tn10, tn11, tn12, tn13, tn14, tn15, tn16, tn17, tn18, tn19, tn20, tn21, tn22, tn23, tn24, tn25, tn26, tn27, tn28, tn29, tn30, tn31, tn32, tn33, tn34, tn35, tn36, tn37, tn38, tn39, tn40, tn41, tn42, tn43, tn44, tn45, tn46, tn47, tn48, tn49, tn50, tn51, tn52, tn53, tn54, tn55, tn56, tn57, tn58, tn59, tn60, lH_eq, true_and, and_true, sa, h5]
    exact ⟨by decide, by decide, fun _ => ⟨e1, e2, k h (Fr'.refl _ _) (fun j => by rw [if_neg (by omega)])⟩, fun z => absurd (Nat.le_refl i) z⟩
  | n + 1, i, h, hi, sa, sb, e1, e2, k => by
    refine wX12_copies_2 hd a b (nI i) ?_
    have h5 : (Int32.ofNat n0 ≤ nI i) = (n0 ≤ i) := nI_le_iff (by omega) (by omega)
    simp only [rt_i, rt_b0, rt_b1, rt_v, rt_l, rt_o, rt_a, rV_none, rI_some, rL_some, rR_some, rT_some, rt_bI, hIf_sL, hIf_sR, hS_sI, hS_sL, hS_sR, hS_cpI, hR_sI, hR_sL, hR_cpI, hL_sI, hL_sR, hL_cpI, hI_sL, hI_sR, hN_sI, hN_sL, hN_sR, hN_cpI, hU_sI, hU_sL, hU_sR, hU_cpI, tn0, tn1, tn2, tn3, tn4, tn5, tn6, tn7, tn8, tn9, tn10, tn11, tn12, tn13, tn14, tn15, tn16, tn17, tn18, tn19, tn20, tn21, tn22, tn23, tn24, tn25, tn26, tn27, tn28, tn29, tn30, tn31, tn32, tn33, tn34, tn35, tn36, tn37, tn38, tn39, tn40, tn41, tn42, tn43, tn44, tn45, tn46, tn47, tn48, tn49, tn50, tn51, tn52, tn53, tn54, tn55, tn56, tn57, tn58, tn59, tn60, lH_eq, true_and, and_true, sa, sb, h5, vp_in_nI (show i < n0 by omega) (show n0 < 2 ^ 31 by omega), nI_clamp (show i < 2 ^ 31 by omega), nI_1]
    refine ⟨by decide, by decide, fun z => absurd z (by omega), fun _ => ?_⟩
    refine cp_loop hd a b n0 hab hn0 n (i + 1) _ (by omega) sa sb e1 e2 (fun h' f q => k h' ((Fr'.sI (S := fun c => c = b) rfl).trans f) (fun j => ?_))
    rw [q j, hI_sI, if_neg hab, hI_sI, if_pos rfl]
    by_cases c : i + 1 ≤ j ∧ j < n0
    · rw [if_pos c, if_pos (by omega)]
    · rw [if_neg c]
      by_cases c2 : j = i
      · subst c2
        rw [if_pos rfl, if_pos (by omega)]
      · rw [if_neg c2, if_neg (by omega)]
theorem m_copies {d : Nat} {h : AH} {Q : Option Value → AH → Prop} (hd : 5 ≤ d) (a b n0 : Nat) (hab : a ≠ b) (hn0 : n0 < 2 ^ 30) (sa : hS h a = (1, n0)) (sb : hS h b = (1, n0)) (k : ∀ h', Fr' h h' (fun c => c = b) → (∀ j, j < n0 → hI h' b j = hI h a j) → Q none h') : Calls d nX12_copies [.ref a, .ref b] h (hN h) (hU h) Q := by
  obtain ⟨e, rfl⟩ : ∃ e, d = e + 1 := ⟨d - 1, by omega⟩
  exact wX12_copies (by omega) a b (cp_loop (by omega) a b n0 hab hn0 n0 0 h (by omega) sa sb rfl rfl (fun h' f q => k h' f (fun j hj => by rw [q j, if_pos (by omega)])))
noncomputable def aRow (nr nw : Nat) (A M : PC) (R : Option (List (List (Nat × Nat) × List (Nat × Nat)))) (q n w : Int32) : Int32 := if (0 ≤ q ∧ q < nI nr) ∧ (1 ≤ n ∧ n ≤ 3) ∧ (0 ≤ w ∧ w ≤ 3) then (if w = 0 then (rowF R A nr nw q.toNatClampNeg n.toNatClampNeg M).1 else if n < w then -2 else (rowF R A nr nw q.toNatClampNeg n.toNatClampNeg M).2 (w.toNatClampNeg - 1)) else -3
theorem ro_loop {d E1 E2 : Nat} {Q : Option Value → AH → Prop} {h0 : AH} (hd : 14 ≤ d) (m nr nw r n wh : Nat) (A M : PC) (R : Option (List (List (Nat × Nat) × List (Nat × Nat)))) (hr : r < nr) (hn : n ≤ 3) (hwh : wh ≤ 3) (H : QK h0 m nr nw A M R) (e1 : hN h0 = E1) (e2 : hU h0 = E2) (b0 : Nat → Int32) (k : ∀ h', Rs h0 h' m → M5 h' m → Q (some (.int (if wh = 0 then (trF R A nr nw r n 0 M (fun _ => 0) (-1, b0)).1 else if n < wh then -2 else (trF R A nr nw r n 0 M (fun _ => 0) (-1, b0)).2 (wh - 1)))) h') : ∀ (l i : Nat) (h : AH), i + l = (nw + 1) ^ n → Rs h0 h m → M5 h m → (∀ j, j < n → hI h (m + 36) j = (lpF (stF R A nr nw r n 0 M (fun _ => 0)) i (-1, b0)).2 j) → Reach d nX12_row (76, [.ref m, .int (nI r), .int (nI n), .int (nI wh), .int (nI ((nw + 1) ^ n)), .int (lpF (stF R A nr nw r n 0 M (fun _ => 0)) i (-1, b0)).1, .int (nI i), .float 0], []) h E1 E2 Q
  | 0, i, h, hi, S, h5, hb => by
    have : i = (nw + 1) ^ n := by omega
    subst this
    have hok := H.of_r (by omega)
    have hw6 := hok.1.2.1
    have hpw := pow_343 (b := nw + 1) (n := n) (by omega) hn
    have HM := H.1.1.fr S.1.1
    have e3 := S.1.1
    have kk := k h S h5
    rw [tr_codes] at kk
    refine wX12_row_76 (by omega) m (nI r) (nI n) (nI wh) _ _ _ ?_
    have hw0 : (nI wh = 0) = (wh = 0) := nI_eq_iff (b := 0) (by omega) (by decide)
    simp only [rt_i, rt_b0, rt_b1, rt_v, rt_l, rt_o, rt_a, rV_none, rI_some, rL_some, rR_some, rT_some, rt_bI, hIf_sL, hIf_sR, hS_sI, hS_sL, hS_sR, hS_cpI, hR_sI, hR_sL, hR_cpI, hL_sI, hL_sR, hL_cpI, hI_sL, hI_sR, hN_sI, hN_sL, hN_sR, hN_cpI, hU_sI, hU_sL, hU_sR, hU_cpI, tn0, tn1, tn2, tn3, tn4, tn5, tn6, tn7, tn8, tn9, tn10, tn11, tn12, tn13, tn14, tn15, tn16, tn17, tn18, tn19, tn20, tn21, tn22, tn23, tn24, tn25, tn26, tn27, tn28, tn29, tn30, tn31, tn32, tn33, tn34, tn35, tn36, tn37, tn38, tn39, tn40, tn41, tn42, tn43, tn44, tn45, tn46, tn47, tn48, tn49, tn50, tn51, tn52, tn53, tn54, tn55, tn56, tn57, tn58, tn59, tn60, lH_eq, true_and, and_true, mdq_0 HM, mdq_49 HM, mds_49 HM, nI_le_iff (show (nw + 1) ^ n < 2 ^ 31 by omega) (show (nw + 1) ^ n < 2 ^ 31 by omega), hw0, nI_lt_iff (show n < 2 ^ 31 by omega) (show wh < 2 ^ 31 by omega)]
    refine ⟨fun _ => ⟨fun z => ⟨fun y => ?_, fun y => ?_⟩, fun z => ?_⟩, fun z => absurd (Nat.le_refl _) z⟩
    · rw [if_neg z, if_pos y] at kk
      exact ⟨e3.2.2.1.trans e1, e3.2.2.2.1.trans e2, kk⟩
    · rw [if_neg z, if_neg y] at kk
      have e1' : nI wh - 1 = nI (wh - 1) := pk_sub (b := 1) (by omega)
      rw [e1', nI_clamp (by omega), hb _ (by omega)]
      exact ⟨vp_in_nI (by omega) (by decide), e3.2.2.1.trans e1, e3.2.2.2.1.trans e2, kk⟩
    · rw [if_pos z] at kk
      exact ⟨e3.2.2.1.trans e1, e3.2.2.2.1.trans e2, kk⟩
  | l + 1, i, h, hi, S, h5, hb => by
    have hok := H.of_r (by omega)
    have hr5 := hok.1.1
    have hw6 := hok.1.2.1
    have hpw := pow_343 (b := nw + 1) (n := n) (by omega) hn
    have HQ1 := H.rs S h5
    have HM := HQ1.1.1
    have e3 := S.1.1
    refine wX12_row_76 (by omega) m (nI r) (nI n) (nI wh) _ _ _ ?_
    simp only [rt_i, rt_b0, rt_b1, rt_v, rt_l, rt_o, rt_a, rV_none, rI_some, rL_some, rR_some, rT_some, rt_bI, hIf_sL, hIf_sR, hS_sI, hS_sL, hS_sR, hS_cpI, hR_sI, hR_sL, hR_cpI, hL_sI, hL_sR, hL_cpI, hI_sL, hI_sR, hN_sI, hN_sL, hN_sR, hN_cpI, hU_sI, hU_sL, hU_sR, hU_cpI, tn0, tn1, tn2, tn3, tn4, tn5, tn6, tn7, tn8, tn9, tn10, tn11, tn12, tn13, tn14, tn15, tn16, tn17, tn18, tn19, tn20, tn21, tn22, tn23, tn24, tn25, tn26, tn27, tn28, tn29, tn30, tn31, tn32, tn33, tn34, tn35, tn36, tn37, tn38, tn39, tn40, tn41, tn42, tn43, tn44, tn45, tn46, tn47, tn48, tn49, tn50, tn51, tn52, tn53, tn54, tn55, tn56, tn57, tn58, tn59, tn60, lH_eq, true_and, and_true, mdq_0 HM, mdq_48 HM, mds_48 HM, mdq_49 HM, mds_49 HM, nI_le_iff (show (nw + 1) ^ n < 2 ^ 31 by omega) (show i < 2 ^ 31 by omega), nI_1]
    refine ⟨fun z => absurd z (by omega), fun _ => ?_⟩
    have hs : lpF (stF R A nr nw r n 0 M (fun _ => 0)) (i + 1) (-1, b0) = stF R A nr nw r n 0 M (fun _ => 0) i (lpF (stF R A nr nw r n 0 M (fun _ => 0)) i (-1, b0)) := rfl
    have hmin : (-1 : Int) ≤ (lpF (stF R A nr nw r n 0 M (fun _ => 0)) i (-1, b0)).1.toInt := by
      have := lpF_mono (f := stF R A nr nw r n 0 M (fun _ => 0)) (fun j s => ?_) (-1, b0) i
      · rw [t_m1] at this; exact this
      · unfold stF
        split
        · exact Int.le_refl _
        · split
          · rename_i z
            rw [Int32.lt_iff_toInt_lt] at z
            exact Int.le_of_lt z
          · exact Int.le_refl _
    obtain ⟨d1, rfl⟩ : ∃ d1, d = d1 + 1 := ⟨d - 1, by omega⟩
    refine wX12_wealthByRow (by omega) m (nI r) (nI n) (nI i) (nI ((nw + 1) ^ n)) ?_
    refine wb_loop (h0 := h0) (b36 := fun j => hI h (m + 36) j) (by omega) m nr nw r n i A M R hr hn (by omega) H e3.2.2.1.symm e3.2.2.2.1.symm (wbF R A nr nw r n i M) (fun h' S' h5' ht h36 => ?_) n 0 M (fun _ => none) h 1 (by omega) S.1 HQ1.1 (fun _ _ _ => rfl) (fun j hj _ => h5 j hj) (fun _ => rfl) (Or.inr rfl) (fun z => absurd z (by decide)) (fun _ => ⟨rfl, ⟨999, by omega, hok.2⟩, fun _ => 0, fun j hj => absurd hj (Nat.not_lt_zero j), rfl⟩)
    have e4 := S'.1.1
    have HM' := H.1.1.fr e4
    simp only [rI_some, rt_i, rt_b0, rt_b1, rt_v, rt_l, rt_o, rt_a, rV_none, rI_some, rL_some, rR_some, rT_some, rt_bI, hIf_sL, hIf_sR, hS_sI, hS_sL, hS_sR, hS_cpI, hR_sI, hR_sL, hR_cpI, hL_sI, hL_sR, hL_cpI, hI_sL, hI_sR, hN_sI, hN_sL, hN_sR, hN_cpI, hU_sI, hU_sL, hU_sR, hU_cpI, tn0, tn1, tn2, tn3, tn4, tn5, tn6, tn7, tn8, tn9, tn10, tn11, tn12, tn13, tn14, tn15, tn16, tn17, tn18, tn19, tn20, tn21, tn22, tn23, tn24, tn25, tn26, tn27, tn28, tn29, tn30, tn31, tn32, tn33, tn34, tn35, tn36, tn37, tn38, tn39, tn40, tn41, tn42, tn43, tn44, tn45, tn46, tn47, tn48, tn49, tn50, tn51, tn52, tn53, tn54, tn55, tn56, tn57, tn58, tn59, tn60, lH_eq, true_and, and_true, mdq_0 HM', mdq_48 HM', mds_48 HM', mdq_49 HM', mds_49 HM']
    cases hwb : wbF R A nr nw r n i M with
    | none =>
      have es : lpF (stF R A nr nw r n 0 M (fun _ => 0)) (i + 1) (-1, b0) = lpF (stF R A nr nw r n 0 M (fun _ => 0)) i (-1, b0) := by rw [hs]; simp only [stF, hwb]
      simp only [wbV]
      refine ⟨fun z => ?_, fun z => absurd (by rw [Int32.le_iff_toInt_le, t_m1]; exact hmin) z⟩
      have := ro_loop hd m nr nw r n wh A M R hr hn hwh H e1 e2 b0 k l (i + 1) h' (by omega) S' h5' (fun j hj => by rw [h36, hb j hj, es])
      rwa [es] at this
    | some N' =>
      rw [hwb] at ht
      simp only [wbV]
      refine ⟨fun z => ?_, fun z => ?_⟩
      · have es : lpF (stF R A nr nw r n 0 M (fun _ => 0)) (i + 1) (-1, b0) = lpF (stF R A nr nw r n 0 M (fun _ => 0)) i (-1, b0) := by
          rw [hs]
          simp only [stF, hwb]
          rw [if_neg (Int32.not_lt.mpr z)]
        have := ro_loop hd m nr nw r n wh A M R hr hn hwh H e1 e2 b0 k l (i + 1) h' (by omega) S' h5' (fun j hj => by rw [h36, hb j hj, es])
        rwa [es] at this
      · have es : lpF (stF R A nr nw r n 0 M (fun _ => 0)) (i + 1) (-1, b0) = (N' 3 r, dgC nw n 0 (fun _ => 0) i) := by
          rw [hs]
          simp only [stF, hwb]
          rw [if_pos (i32_lt_of z)]
        refine m_copies (by omega) (m + 35) (m + 36) 3 (by omega) (by decide) (mds_48 HM') (mds_49 HM') (fun h2 f2 q2 => ?_)
        rw [rV_none]
        have S2 := S'.1.wr f2 (fun c z => by omega)
        have := ro_loop hd m nr nw r n wh A M R hr hn hwh H e1 e2 b0 k l (i + 1) h2 (by omega) ⟨S2, fun r hr j hj => by rw [f2.2.2.2.2.1 (m + r) (by have := six_rows r hr; omega)]; exact S'.2 r hr j hj⟩ (fun j hj => by rw [f2.2.2.2.2.1 (m + 32) (by omega)]; exact h5' j hj) (fun j hj => by rw [q2 j (by omega), ht (by simp) j hj, es])
        rwa [es] at this
theorem rq_loop {d E1 E2 : Nat} {Q : Option Value → AH → Prop} {h : AH} (hd : 14 ≤ d) (m nr nw r n wh : Nat) (A M : PC) (R : Option (List (List (Nat × Nat) × List (Nat × Nat)))) (hr : r < nr) (hn : n ≤ 3) (hwh : wh ≤ 3) (H : QK h m nr nw A M R) (e1 : hN h = E1) (e2 : hU h = E2) (k : ∀ h', Rs h h' m → M5 h' m → Q (some (.int (if wh = 0 then (rowF R A nr nw r n M).1 else if n < wh then -2 else (rowF R A nr nw r n M).2 (wh - 1)))) h') : ∀ (l i : Nat), i + l = n → Reach d nX12_row (41, [.ref m, .int (nI r), .int (nI n), .int (nI wh), .int (nI ((nw + 1) ^ i)), .int (nI i), .float 0, .float 0], []) h E1 E2 Q
  | 0, i, hi => by
    have : i = n := by omega
    subst this
    have hok := H.of_r (by omega)
    have HM := H.1.1
    refine wX12_row_41 (by omega) m (nI r) (nI i) (nI wh) _ (nI i) ?_
    simp only [rt_i, rt_b0, rt_b1, rt_v, rt_l, rt_o, rt_a, rV_none, rI_some, rL_some, rR_some, rT_some, rt_bI, hIf_sL, hIf_sR, hS_sI, hS_sL, hS_sR, hS_cpI, hR_sI, hR_sL, hR_cpI, hL_sI, hL_sR, hL_cpI, hI_sL, hI_sR, hN_sI, hN_sL, hN_sR, hN_cpI, hU_sI, hU_sL, hU_sR, hU_cpI, tn0, tn1, tn2, tn3, tn4, tn5, tn6, tn7, tn8, tn9, tn10, tn11, tn12, tn13, tn14, tn15, tn16, tn17, tn18, tn19, tn20, tn21, tn22, tn23, tn24, tn25, tn26, tn27, tn28, tn29, tn30, tn31, tn32, tn33, tn34, tn35, tn36, tn37, tn38, tn39, tn40, tn41, tn42, tn43, tn44, tn45, tn46, tn47, tn48, tn49, tn50, tn51, tn52, tn53, tn54, tn55, tn56, tn57, tn58, tn59, tn60, lH_eq, true_and, and_true, mdq_0 HM, nI_le_iff (show i < 2 ^ 31 by omega) (show i < 2 ^ 31 by omega)]
    refine ⟨fun _ => ?_, fun z => absurd (Nat.le_refl i) z⟩
    refine QK.keep (d := d) (by omega) H (fun h1 S1 m1 H1 => ?_)
    rw [rV_none]
    refine ro_loop (h0 := h) hd m nr nw r i wh A M R hr hn hwh H e1 e2 (fun j => hI h1 (m + 36) j) (fun h' S' h5' => ?_) ((nw + 1) ^ i) 0 h1 (by omega) S1 (fun j hj => by rw [m1]; exact H.2.1 j hj) (fun _ _ => rfl)
    have re := rowF_eq R A nr nw r i M (D := 999) (by omega) hn hr hok.1 hok.2 (fun _ => 0) (fun j => hI h1 (m + 36) j)
    have := k h' S' h5'
    rw [re.1]
    by_cases c : wh = 0
    · rw [if_pos c] at this ⊢; exact this
    · rw [if_neg c] at this ⊢
      by_cases c2 : i < wh
      · rw [if_pos c2] at this ⊢; exact this
      · rw [if_neg c2] at this ⊢
        rw [re.2 _ (by omega)]; exact this
  | l + 1, i, hi => by
    have ih := rq_loop hd m nr nw r n wh A M R hr hn hwh H e1 e2 k l (i + 1) (by omega)
    have HM := H.1.1
    refine wX12_row_41 (by omega) m (nI r) (nI n) (nI wh) _ (nI i) ?_
    have en : hI h (m + 1) 2 + 1 = nI (nw + 1) := by rw [H.1.2.1.2.1, nI_1]
    simp only [rt_i, rt_b0, rt_b1, rt_v, rt_l, rt_o, rt_a, rV_none, rI_some, rL_some, rR_some, rT_some, rt_bI, hIf_sL, hIf_sR, hS_sI, hS_sL, hS_sR, hS_cpI, hR_sI, hR_sL, hR_cpI, hL_sI, hL_sR, hL_cpI, hI_sL, hI_sR, hN_sI, hN_sL, hN_sR, hN_cpI, hU_sI, hU_sL, hU_sR, hU_cpI, tn0, tn1, tn2, tn3, tn4, tn5, tn6, tn7, tn8, tn9, tn10, tn11, tn12, tn13, tn14, tn15, tn16, tn17, tn18, tn19, tn20, tn21, tn22, tn23, tn24, tn25, tn26, tn27, tn28, tn29, tn30, tn31, tn32, tn33, tn34, tn35, tn36, tn37, tn38, tn39, tn40, tn41, tn42, tn43, tn44, tn45, tn46, tn47, tn48, tn49, tn50, tn51, tn52, tn53, tn54, tn55, tn56, tn57, tn58, tn59, tn60, lH_eq, true_and, and_true, mdq_0 HM, mdq_1 HM, mds_1 HM, vl7_0, vl7_1, vl7_2, vl7_3, vl7_4, vl7_5, vl7_6, nI_le_iff (show n < 2 ^ 31 by omega) (show i < 2 ^ 31 by omega), en, pk_mul, nI_1]
    rw [Nat.pow_succ] at ih
    exact ⟨fun z => absurd z (by omega), fun _ => ih⟩
theorem m_row {d : Nat} {h : AH} {Q : Option Value → AH → Prop} (hd : 15 ≤ d) (m nr nw : Nat) (A M : PC) (R : Option (List (List (Nat × Nat) × List (Nat × Nat)))) (q n w : Int32) (H : QK h m nr nw A M R) (kk : ∀ h', Rs h h' m → M5 h' m → Q (some (.int (aRow nr nw A M R q n w))) h') (kk0 : aRow nr nw A M R q n w = -3 → Q (some (.int (-3))) h) : Calls d nX12_row [.ref m, .int q, .int n, .int w] h (hN h) (hU h) Q := by
  obtain ⟨e, rfl⟩ : ∃ e, d = e + 1 := ⟨d - 1, by omega⟩
  have HQ := H
  obtain ⟨HC, H5, hr5, hw6, hh⟩ := H
  refine wX12_row (by omega) m q n w ?_
  simp only [rt_i, rt_b0, rt_b1, rt_v, rt_l, rt_o, rt_a, rV_none, rI_some, rL_some, rR_some, rT_some, rt_bI, hIf_sL, hIf_sR, hS_sI, hS_sL, hS_sR, hS_cpI, hR_sI, hR_sL, hR_cpI, hL_sI, hL_sR, hL_cpI, hI_sL, hI_sR, hN_sI, hN_sL, hN_sR, hN_cpI, hU_sI, hU_sL, hU_sR, hU_cpI, tn0, tn1, tn2, tn3, tn4, tn5, tn6, tn7, tn8, tn9, tn10, tn11, tn12, tn13, tn14, tn15, tn16, tn17, tn18, tn19, tn20, tn21, tn22, tn23, tn24, tn25, tn26, tn27, tn28, tn29, tn30, tn31, tn32, tn33, tn34, tn35, tn36, tn37, tn38, tn39, tn40, tn41, tn42, tn43, tn44, tn45, tn46, tn47, tn48, tn49, tn50, tn51, tn52, tn53, tn54, tn55, tn56, tn57, tn58, tn59, tn60, lH_eq, true_and, and_true, mdq_0 HC.1]
  refine m_isRunner (by omega) m nr q HC.1 HC.2.1.1 hr5 ?_
  simp only [rI_some, bI0, mdq_0 HC.1, true_and]
  refine ⟨fun z => kk0 (by unfold aRow; rw [if_neg (fun y => z y.1)]), fun z => ?_⟩
  refine m_in32 (by omega) n 1 3 rfl rfl rfl ?_
  simp only [rI_some, bI0, mdq_0 HC.1, true_and]
  refine ⟨fun y => kk0 (by unfold aRow; rw [if_neg (fun x => y x.2.1)]), fun y => ?_⟩
  refine m_in32 (by omega) w 0 3 rfl rfl rfl ?_
  simp only [rI_some, bI0, mdq_0 HC.1, true_and]
  refine ⟨fun x => ?_, fun x => kk0 (by unfold aRow; rw [if_neg (fun v => x v.2.2)])⟩
  have z := Decidable.not_not.mp z
  have y := Decidable.not_not.mp y
  have x := Decidable.not_not.mp x
  obtain ⟨r, hr, rfl⟩ := rn_of (by omega) z
  obtain ⟨nn, hn1, hn2, rfl⟩ := rg1_of (n := 3) rfl (by decide) y
  obtain ⟨ww, hw, rfl⟩ := rg_of (n := 3) rfl (by decide) x
  have ea : aRow nr nw A M R (nI r) (nI nn) (nI ww) = if ww = 0 then (rowF R A nr nw r nn M).1 else if nn < ww then -2 else (rowF R A nr nw r nn M).2 (ww - 1) := by
    unfold aRow
    have h0 : (nI ww = 0) = (ww = 0) := nI_eq_iff (b := 0) (by omega) (by decide)
    rw [if_pos ⟨z, y, x⟩, nI_clamp (by omega), nI_clamp (by omega), nI_clamp (by omega)]
    simp only [h0, nI_lt_iff (show nn < 2 ^ 31 by omega) (show ww < 2 ^ 31 by omega)]
  rw [ea] at kk
  exact rq_loop (by omega) m nr nw r nn ww A M R hr hn2 hw HQ rfl rfl kk nn 0 (by omega)

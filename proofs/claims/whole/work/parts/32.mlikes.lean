/-! the reference's pictures of hill and moment -/
def rA (h : AH) (m : Nat) : Nat → Nat → Int32 := fun k j => match k with
  | 0 => hI h (m + 1) 0
  | 1 => hI h (m + 12) j
  | 2 => hI h (m + 13) j
  | 3 => hI h (m + 14) j
  | 4 => hI h (m + 7) j
  | _ => hI h (m + 8) j
def rM (h : AH) (m : Nat) : Nat → Nat → Int32 := fun k j => match k with
  | 0 => hI h (m + 1) 3
  | 1 => hI h (m + 4) j
  | 2 => hI h (m + 2) j
  | 3 => hI h (m + 3) j
  | 4 => hI h (m + 5) j
  | _ => hI h (m + 6) j
def MFor (h : AH) (m : Nat) (R : Option (List (List (Nat × Nat) × List (Nat × Nat)))) : Prop := match R with
  | none => hI h (m + 1) 6 = -1
  | some cls => ∃ r, hI h (m + 1) 6 = nI r ∧ MRul h m r cls
theorem MRul.cg {h h' : AH} {m r : Nat} {cls : List (List (Nat × Nat) × List (Nat × Nat))} (H : MRul h m r cls) (g : ∀ b, m + 22 ≤ b → b ≤ m + 27 → ∀ j, hI h' b j = hI h b j) : MRul h' m r cls := by
  have e : ∀ b, m + 22 ≤ b → b ≤ m + 27 → hI h' b = hI h b := fun b h1 h2 => funext (g b h1 h2)
  unfold MRul at H ⊢
  rw [e (m + 22) (by omega) (by omega), e (m + 23) (by omega) (by omega), e (m + 24) (by omega) (by omega), e (m + 25) (by omega) (by omega), e (m + 26) (by omega) (by omega), e (m + 27) (by omega) (by omega)]
  exact H
theorem MFor.cg {h h' : AH} {m : Nat} {R : Option (List (List (Nat × Nat) × List (Nat × Nat)))} (H : MFor h m R) (g : ∀ b, m + 22 ≤ b → b ≤ m + 27 → ∀ j, hI h' b j = hI h b j) (g6 : hI h' (m + 1) 6 = hI h (m + 1) 6) : MFor h' m R := by
  cases R with
  | none => exact g6.trans H
  | some cls =>
    obtain ⟨r, h1, h2⟩ := H
    exact ⟨r, g6.trans h1, h2.cg g⟩
theorem wd12 {wd : Nat → Int64} {f : Nat → Int64} (h0 : f 0 = wd 0) (h1 : f 1 = wd 1) (h2 : f 2 = wd 2) (h3 : f 3 = wd 3) (h4 : f 4 = wd 4) (h5 : f 5 = wd 5) (h6 : f 6 = wd 6) (h7 : f 7 = wd 7) (h8 : f 8 = wd 8) (h9 : f 9 = wd 9) (h10 : f 10 = wd 10) (h11 : f 11 = wd 11) : ∀ j, j < 12 → f j = wd j := fun j hj => by
  have : j = 0 ∨ j = 1 ∨ j = 2 ∨ j = 3 ∨ j = 4 ∨ j = 5 ∨ j = 6 ∨ j = 7 ∨ j = 8 ∨ j = 9 ∨ j = 10 ∨ j = 11 := by omega
  rcases this with rfl | rfl | rfl | rfl | rfl | rfl | rfl | rfl | rfl | rfl | rfl | rfl <;> assumption
theorem m_likes {d : Nat} {h : AH} {Q : Option Value → AH → Prop} (hd : 9 ≤ d) (m r w nr : Nat) (R : Option (List (List (Nat × Nat) × List (Nat × Nat)))) (H : ModAt h m) (HF : MFor h m R) (hn : hI h (m + 1) 1 = nI nr) (hr : r < nr) (hr5 : nr ≤ 5) (hw : w < 6) (hsp : 0 < hI h (m + 4) r) (hfe : 0 < hI h (m + 1) 0) (hpu : ∀ j, j < nr → -100 < hI h (m + 2) j) (k : ∀ h', Fr' h h' (fun b => b = m + 29 ∨ b = m + 30) → Q (some (.long (lkF R (rA h m) (rM h m) nr (hI h (m + 31)) r w))) h') : Calls d nX12_likes [.ref m, .int (nI r), .int (nI w)] h (hN h) (hU h) Q := by
  obtain ⟨e, rfl⟩ : ∃ e, d = e + 1 := ⟨d - 1, by omega⟩
  refine wX12_likes (by omega) m (nI r) (nI w) ?_
  simp only [rt_i, rt_b0, rt_b1, rt_v, rt_l, rt_o, rt_a, rV_none, rI_some, rL_some, rR_some, rT_some, rt_bI, hIf_sL, hIf_sR, hS_sI, hS_sL, hS_sR, hS_cpI, hR_sI, hR_sL, hR_cpI, hL_sI, hL_sR, hL_cpI, hI_sL, hI_sR, hN_sI, hN_sL, hN_sR, hN_cpI, hU_sI, hU_sL, hU_sR, hU_cpI, tn0, tn1, tn2, tn3, tn4, tn5, tn6, tn7, tn8, tn9, tn10, tn11, tn12, tn13, tn14, tn15, tn16, tn17, tn18, tn19, tn20, tn21, tn22, tn23, tn24, tn25, tn26, tn27, tn28, tn29, tn30, tn31, tn32, tn33, tn34, tn35, tn36, tn37, tn38, tn39, tn40, tn41, tn42, tn43, tn44, tn45, tn46, tn47, tn48, tn49, tn50, tn51, tn52, tn53, tn54, tn55, tn56, tn57, tn58, tn59, tn60, lH_eq, true_and, and_true, mdq_0 H, mdq_1 H, mds_1 H, mdq_2 H, mds_2 H, mdq_3 H, mds_3 H, mdq_4 H, mds_4 H, mdq_5 H, mds_5 H, mdq_7 H, mds_7 H, mdq_39 H, mds_39 H, vl7_0, vl7_1, vl7_2, vl7_3, vl7_4, vl7_5, vl7_6, vl12_0, vl12_1, vl12_2, vl12_3, vl12_4, vl12_5, vl12_6, vl12_7, vl12_8, vl12_9, vl12_10, vl12_11, vp_in_nI (show r < 5 by omega) (show 5 < 2 ^ 31 by omega), nI_clamp (show r < 2 ^ 31 by omega), vp_in_nI (show w < 6 by omega) (show 6 < 2 ^ 31 by omega), nI_clamp (show w < 2 ^ 31 by omega), irm_eq]
  cases R with
  | none =>
    have HF : hI h (m + 1) 6 = -1 := HF
    exact ⟨fun z => absurd HF z, fun _ => k h (Fr'.refl _ _)⟩
  | some cls =>
    obtain ⟨s, hs, HR⟩ := HF
    refine ⟨fun _ => ?_, fun z => absurd (hs.symm.trans z) (nI_ne_m1 (by have := HR.1; omega))⟩
    refine m_rivals (by omega) m r w H (by omega) ?_
    simp only [rt_i, rt_b0, rt_b1, rt_v, rt_l, rt_o, rt_a, rV_none, rI_some, rL_some, rR_some, rT_some, rt_bI, hIf_sL, hIf_sR, hS_sI, hS_sL, hS_sR, hS_cpI, hR_sI, hR_sL, hR_cpI, hL_sI, hL_sR, hL_cpI, hI_sL, hI_sR, hN_sI, hN_sL, hN_sR, hN_cpI, hU_sI, hU_sL, hU_sR, hU_cpI, tn0, tn1, tn2, tn3, tn4, tn5, tn6, tn7, tn8, tn9, tn10, tn11, tn12, tn13, tn14, tn15, tn16, tn17, tn18, tn19, tn20, tn21, tn22, tn23, tn24, tn25, tn26, tn27, tn28, tn29, tn30, tn31, tn32, tn33, tn34, tn35, tn36, tn37, tn38, tn39, tn40, tn41, tn42, tn43, tn44, tn45, tn46, tn47, tn48, tn49, tn50, tn51, tn52, tn53, tn54, tn55, tn56, tn57, tn58, tn59, tn60, lH_eq, true_and, and_true, mdq_0 H, mdq_1 H, mds_1 H, mdq_2 H, mds_2 H, mdq_3 H, mds_3 H, mdq_4 H, mds_4 H, mdq_5 H, mds_5 H, mdq_7 H, mds_7 H, mdq_39 H, mds_39 H, vl7_0, vl7_1, vl7_2, vl7_3, vl7_4, vl7_5, vl7_6, vl12_0, vl12_1, vl12_2, vl12_3, vl12_4, vl12_5, vl12_6, vl12_7, vl12_8, vl12_9, vl12_10, vl12_11, vp_in_nI (show r < 5 by omega) (show 5 < 2 ^ 31 by omega), nI_clamp (show r < 2 ^ 31 by omega), vp_in_nI (show w < 6 by omega) (show 6 < 2 ^ 31 by omega), nI_clamp (show w < 2 ^ 31 by omega), irm_eq]
    refine ⟨fun z => ?_, ?_⟩
    · rw [z] at hsp; exact absurd hsp (by decide)
    refine m_lead (by omega) m r nr H hn hr hr5 ?_
    simp only [rt_i, rt_b0, rt_b1, rt_v, rt_l, rt_o, rt_a, rV_none, rI_some, rL_some, rR_some, rT_some, rt_bI, hIf_sL, hIf_sR, hS_sI, hS_sL, hS_sR, hS_cpI, hR_sI, hR_sL, hR_cpI, hL_sI, hL_sR, hL_cpI, hI_sL, hI_sR, hN_sI, hN_sL, hN_sR, hN_cpI, hU_sI, hU_sL, hU_sR, hU_cpI, tn0, tn1, tn2, tn3, tn4, tn5, tn6, tn7, tn8, tn9, tn10, tn11, tn12, tn13, tn14, tn15, tn16, tn17, tn18, tn19, tn20, tn21, tn22, tn23, tn24, tn25, tn26, tn27, tn28, tn29, tn30, tn31, tn32, tn33, tn34, tn35, tn36, tn37, tn38, tn39, tn40, tn41, tn42, tn43, tn44, tn45, tn46, tn47, tn48, tn49, tn50, tn51, tn52, tn53, tn54, tn55, tn56, tn57, tn58, tn59, tn60, lH_eq, true_and, and_true, mdq_0 H, mdq_1 H, mds_1 H, mdq_2 H, mds_2 H, mdq_3 H, mds_3 H, mdq_4 H, mds_4 H, mdq_5 H, mds_5 H, mdq_7 H, mds_7 H, mdq_39 H, mds_39 H, vl7_0, vl7_1, vl7_2, vl7_3, vl7_4, vl7_5, vl7_6, vl12_0, vl12_1, vl12_2, vl12_3, vl12_4, vl12_5, vl12_6, vl12_7, vl12_8, vl12_9, vl12_10, vl12_11, vp_in_nI (show r < 5 by omega) (show 5 < 2 ^ 31 by omega), nI_clamp (show r < 2 ^ 31 by omega), vp_in_nI (show w < 6 by omega) (show 6 < 2 ^ 31 by omega), nI_clamp (show w < 2 ^ 31 by omega), irm_eq]
    refine ⟨fun z => ?_, ?_⟩
    · rw [z] at hfe; exact absurd hfe (by decide)
    rw [lead_eq _ r nr hr hpu]
    refine m_wanted (by omega) m s cls (wdF (hI h (m + 4)) (hI h (m + 2)) (hI h (m + 3)) (hI h (m + 5)) (hI h (m + 7)) (hI h (m + 1) 0) (hI h (m + 1) 3) nr (hI h (m + 31)) r w) H HR hs (wd12 ?_ ?_ ?_ ?_ ?_ ?_ ?_ ?_ ?_ ?_ ?_ ?_) (fun h' f => ?_)
    all_goals try (simp only [hL_sL, if_true, wdF, if_pos hsp, if_pos hfe]; done)
    all_goals try (simp only [hL_sL, if_true, wdF, if_pos hsp, if_pos hfe]; rfl)
    have g : ∀ (h1 : AH) i x, Fr' h h1 (fun b => b = m + 29 ∨ b = m + 30) → Fr' h (sL h1 (m + 29) i x) (fun b => b = m + 29 ∨ b = m + 30) := fun h1 i x f => f.trans (Fr'.sL (Or.inl rfl))
    have f2 := (g _ 11 (hI h (m + 1) 3).toInt64 (g _ 10 (hI h (m + 1) 0 - 1 - irm (hI h (m + 1) 3) (hI h (m + 1) 0)).toInt64 (g _ 9 (hI h (m + 3) r).toInt64 (g _ 8 (if nr < 2 then (0 : Int32) else hI h (m + 2) r - ldF (hI h (m + 2)) r nr).toInt64 (g _ 7 (hI h (m + 5) w / hI h (m + 4) r).toInt64 (g _ 6 (nI (rvF (hI h (m + 31)) w r)).toInt64 (g _ 5 (hI h (m + 7) w).toInt64 (g _ 4 (hI h (m + 5) w).toInt64 (g _ 3 (hI h (m + 2) r).toInt64 (g _ 2 (hI h (m + 4) r).toInt64 (g _ 1 (nI w).toInt64 (g _ 0 (nI r).toInt64 (Fr'.refl _ _))))))))))))).trans (f.mono (fun b z => Or.inr z))
    simp only [rL_some, rt_l]
    exact ⟨f2.2.2.1, f2.2.2.2.1, k h' f2⟩
theorem ch_loop {d E1 E2 : Nat} {Q : Option Value → AH → Prop} {h0 : AH} (hd : 9 ≤ d) (m r nr nw : Nat) (R : Option (List (List (Nat × Nat) × List (Nat × Nat)))) (H : ModAt h0 m) (HF : MFor h0 m R) (hn : hI h0 (m + 1) 1 = nI nr) (hn2 : hI h0 (m + 1) 2 = nI nw) (hr : r < nr) (hr5 : nr ≤ 5) (hw6 : nw ≤ 6) (hsp : 0 < hI h0 (m + 4) r) (hfe : 0 < hI h0 (m + 1) 0) (hpu : ∀ j, j < nr → -100 < hI h0 (m + 2) j) (hev : ∀ j, j < nw → 0 < hI h0 (m + 8) j) (e1 : hN h0 = E1) (e2 : hU h0 = E2) (k : ∀ h', Fr' h0 h' (fun b => b = m + 29 ∨ b = m + 30) → Q (some (.int (oI (chF R (rA h0 m) (rM h0 m) nr nw (hI h0 (m + 31)) r)))) h') : ∀ (n i : Nat) (h : AH), i + n = nw → Fr' h0 h (fun b => b = m + 29 ∨ b = m + 30) → Reach d nX12_choice (25, [.ref m, .int (nI r), .int (oI (bbF (thB (hI h0 (m + 8)) (hI h0 (m + 1) 3)) (lkF R (rA h0 m) (rM h0 m) nr (hI h0 (m + 31)) r) i).1), .long (bbF (thB (hI h0 (m + 8)) (hI h0 (m + 1) 3)) (lkF R (rA h0 m) (rM h0 m) nr (hI h0 (m + 31)) r) i).2, .float 0, .int (nI i), .float 0, .float 0], []) h E1 E2 Q
  | 0, i, h, hi, f => by
    have : i = nw := by omega
    subst this
    refine wX12_choice_25 (by omega) m (nI r) _ _ (nI i) ?_
    simp only [f.1, f.2.1, rt_i, rt_b0, rt_b1, rt_v, rt_l, rt_o, rt_a, rV_none, rI_some, rL_some, rR_some, rT_some, rt_bI, hIf_sL, hIf_sR, hS_sI, hS_sL, hS_sR, hS_cpI, hR_sI, hR_sL, hR_cpI, hL_sI, hL_sR, hL_cpI, hI_sL, hI_sR, hN_sI, hN_sL, hN_sR, hN_cpI, hU_sI, hU_sL, hU_sR, hU_cpI, tn0, tn1, tn2, tn3, tn4, tn5, tn6, tn7, tn8, tn9, tn10, tn11, tn12, tn13, tn14, tn15, tn16, tn17, tn18, tn19, tn20, tn21, tn22, tn23, tn24, tn25, tn26, tn27, tn28, tn29, tn30, tn31, tn32, tn33, tn34, tn35, tn36, tn37, tn38, tn39, tn40, tn41, tn42, tn43, tn44, tn45, tn46, tn47, tn48, tn49, tn50, tn51, tn52, tn53, tn54, tn55, tn56, tn57, tn58, tn59, tn60, lH_eq, true_and, and_true, mdq_0 H, mdq_1 H, mds_1 H, vl7_0, vl7_1, vl7_2, vl7_3, vl7_4, vl7_5, vl7_6, f.2.2.2.2.1 (m + 1) (by omega), hn2, nI_le_iff (show i < 2 ^ 31 by omega) (show i < 2 ^ 31 by omega)]
    exact ⟨fun _ => ⟨f.2.2.1.trans e1, f.2.2.2.1.trans e2, k h f⟩, fun z => absurd (Nat.le_refl i) z⟩
  | n + 1, i, h, hi, f => by
    have gI : ∀ x, ¬ (x = m + 29 ∨ x = m + 30) → hI h x = hI h0 x := fun x hx => funext (f.2.2.2.2.1 x hx)
    have go := fun h1 f1 => ch_loop hd m r nr nw R H HF hn hn2 hr hr5 hw6 hsp hfe hpu hev e1 e2 k n (i + 1) h1 (by omega) f1
    have hs : bbF (thB (hI h0 (m + 8)) (hI h0 (m + 1) 3)) (lkF R (rA h0 m) (rM h0 m) nr (hI h0 (m + 31)) r) (i + 1) = if thB (hI h0 (m + 8)) (hI h0 (m + 1) 3) i = true ∧ (bbF (thB (hI h0 (m + 8)) (hI h0 (m + 1) 3)) (lkF R (rA h0 m) (rM h0 m) nr (hI h0 (m + 31)) r) i).2 < lkF R (rA h0 m) (rM h0 m) nr (hI h0 (m + 31)) r i then (some i, lkF R (rA h0 m) (rM h0 m) nr (hI h0 (m + 31)) r i) else bbF (thB (hI h0 (m + 8)) (hI h0 (m + 1) 3)) (lkF R (rA h0 m) (rM h0 m) nr (hI h0 (m + 31)) r) i := rfl
    rw [hs] at go
    refine wX12_choice_25 (by omega) m (nI r) _ _ (nI i) ?_
    simp only [f.1, f.2.1, rt_i, rt_b0, rt_b1, rt_v, rt_l, rt_o, rt_a, rV_none, rI_some, rL_some, rR_some, rT_some, rt_bI, hIf_sL, hIf_sR, hS_sI, hS_sL, hS_sR, hS_cpI, hR_sI, hR_sL, hR_cpI, hL_sI, hL_sR, hL_cpI, hI_sL, hI_sR, hN_sI, hN_sL, hN_sR, hN_cpI, hU_sI, hU_sL, hU_sR, hU_cpI, tn0, tn1, tn2, tn3, tn4, tn5, tn6, tn7, tn8, tn9, tn10, tn11, tn12, tn13, tn14, tn15, tn16, tn17, tn18, tn19, tn20, tn21, tn22, tn23, tn24, tn25, tn26, tn27, tn28, tn29, tn30, tn31, tn32, tn33, tn34, tn35, tn36, tn37, tn38, tn39, tn40, tn41, tn42, tn43, tn44, tn45, tn46, tn47, tn48, tn49, tn50, tn51, tn52, tn53, tn54, tn55, tn56, tn57, tn58, tn59, tn60, lH_eq, true_and, and_true, mdq_0 H, mdq_1 H, mds_1 H, vl7_0, vl7_1, vl7_2, vl7_3, vl7_4, vl7_5, vl7_6, f.2.2.2.2.1 (m + 1) (by omega), hn2, nI_le_iff (show nw < 2 ^ 31 by omega) (show i < 2 ^ 31 by omega)]
    refine ⟨fun z => absurd z (by omega), fun _ => ?_⟩
    refine m_isThere (by omega) m i (H.fr f) (by omega) (by rw [gI (m + 8) (by omega)]; exact hev i (by omega)) ?_
    simp only [rI_some, bI0, f.1, mdq_0 H, mdq_1 H, mds_1 H, true_and, gI (m + 8) (by omega), gI (m + 1) (by omega), nI_1]
    refine ⟨fun z => ?_, fun z => ?_⟩
    · rw [if_neg (fun y => z ((thB_t _ _ _).mp y.1))] at go
      exact go h f
    · refine m_likes (by omega) m r i nr R (H.fr f) (HF.cg (fun b h1 h2 => f.2.2.2.2.1 b (by omega)) (by rw [gI (m + 1) (by omega)])) (by rw [gI (m + 1) (by omega)]; exact hn) hr hr5 (by omega) (by rw [gI (m + 4) (by omega)]; exact hsp) (by rw [gI (m + 1) (by omega)]; exact hfe) (fun j hj => by rw [gI (m + 2) (by omega)]; exact hpu j hj) (fun h1 f1 => ?_)
      have f2 := f.trans f1
      have go2 := go h1 f2
      have eA : rA h m = rA h0 m := by
        unfold rA
        rw [gI (m + 1) (by omega), gI (m + 12) (by omega), gI (m + 13) (by omega), gI (m + 14) (by omega), gI (m + 7) (by omega), gI (m + 8) (by omega)]
      have eM : rM h m = rM h0 m := by
        unfold rM
        rw [gI (m + 1) (by omega), gI (m + 2) (by omega), gI (m + 3) (by omega), gI (m + 4) (by omega), gI (m + 5) (by omega), gI (m + 6) (by omega)]
      simp only [rL_some, lgle, eA, eM, gI (m + 31) (by omega)]
      refine ⟨fun y => ?_, fun y => ?_⟩
      · rw [if_neg (fun x => absurd x.2 (Int64.not_lt.mpr y))] at go2
        exact go2
      · rw [if_pos ⟨(thB_t _ _ _).mpr (Decidable.not_not.mp z), Int64.not_le.mp y⟩] at go2
        exact go2
def odV (o : Option Int32) (c : Option Nat) : Int32 := match o with
  | some x => x
  | none => oI c
theorem m_choice {d : Nat} {h : AH} {Q : Option Value → AH → Prop} (hd : 10 ≤ d) (m r nr nw : Nat) (R : Option (List (List (Nat × Nat) × List (Nat × Nat)))) (o : Option Int32) (H : ModAt h m) (HF : MFor h m R) (hn : hI h (m + 1) 1 = nI nr) (hn2 : hI h (m + 1) 2 = nI nw) (hr : r < nr) (hr5 : nr ≤ 5) (hw6 : nw ≤ 6) (hsp : 0 < hI h (m + 4) r) (hfe : 0 < hI h (m + 1) 0) (hpu : ∀ j, j < nr → -100 < hI h (m + 2) j) (hev : ∀ j, j < nw → 0 < hI h (m + 8) j) (ho : hI h (m + 32) r = odI (-5) o) (ho2 : o ≠ some (-5)) (k : ∀ h', Fr' h h' (fun b => b = m + 29 ∨ b = m + 30) → Q (some (.int (odV o (chF R (rA h m) (rM h m) nr nw (hI h (m + 31)) r)))) h') : Calls d nX12_choice [.ref m, .int (nI r)] h (hN h) (hU h) Q := by
  obtain ⟨e, rfl⟩ : ∃ e, d = e + 1 := ⟨d - 1, by omega⟩
  refine wX12_choice (by omega) m (nI r) ?_
  simp only [rt_i, rt_b0, rt_b1, rt_v, rt_l, rt_o, rt_a, rV_none, rI_some, rL_some, rR_some, rT_some, rt_bI, hIf_sL, hIf_sR, hS_sI, hS_sL, hS_sR, hS_cpI, hR_sI, hR_sL, hR_cpI, hL_sI, hL_sR, hL_cpI, hI_sL, hI_sR, hN_sI, hN_sL, hN_sR, hN_cpI, hU_sI, hU_sL, hU_sR, hU_cpI, tn0, tn1, tn2, tn3, tn4, tn5, tn6, tn7, tn8, tn9, tn10, tn11, tn12, tn13, tn14, tn15, tn16, tn17, tn18, tn19, tn20, tn21, tn22, tn23, tn24, tn25, tn26, tn27, tn28, tn29, tn30, tn31, tn32, tn33, tn34, tn35, tn36, tn37, tn38, tn39, tn40, tn41, tn42, tn43, tn44, tn45, tn46, tn47, tn48, tn49, tn50, tn51, tn52, tn53, tn54, tn55, tn56, tn57, tn58, tn59, tn60, lH_eq, true_and, and_true, mdq_0 H, mdq_42 H, mds_42 H, vp_in_nI (show r < 5 by omega) (show 5 < 2 ^ 31 by omega), nI_clamp (show r < 2 ^ 31 by omega), ho]
  refine ⟨fun z => ?_, fun z => ?_⟩
  · cases o with
    | some x => exact absurd (congrArg some z) ho2
    | none => exact ch_loop (by omega) m r nr nw R H HF hn hn2 hr hr5 hw6 hsp hfe hpu hev rfl rfl k nw 0 h (by omega) (Fr'.refl _ _)
  · cases o with
    | none => exact absurd rfl z
    | some x => exact k h (Fr'.refl _ _)
theorem mf_loop {d E1 E2 : Nat} {Q : Option Value → AH → Prop} {h : AH} (hd : 5 ≤ d) (m w nr : Nat) (H : ModAt h m) (hw : w < 6) (hn : hI h (m + 1) 1 = nI nr) (hr5 : nr ≤ 5) (e1 : hN h = E1) (e2 : hU h = E2) (k : Q (some (.int (oI (ftF (hI h (m + 31)) (hI h (m + 4)) (hI h (m + 2)) (hI h (m + 5) w) w nr)))) h) : ∀ (n i : Nat), i + n = nr → Reach d nX12_firstTo (4, [.ref m, .int (nI w), .int (oI (ftF (hI h (m + 31)) (hI h (m + 4)) (hI h (m + 2)) (hI h (m + 5) w) w i)), .int (nI i)], []) h E1 E2 Q
  | 0, i, hi => by
    have : i = nr := by omega
    subst this
    refine wX12_firstTo_4 (by omega) m (nI w) _ (nI i) ?_
    simp only [rt_i, rt_b0, rt_b1, rt_v, rt_l, rt_o, rt_a, rV_none, rI_some, rL_some, rR_some, rT_some, rt_bI, hIf_sL, hIf_sR, hS_sI, hS_sL, hS_sR, hS_cpI, hR_sI, hR_sL, hR_cpI, hL_sI, hL_sR, hL_cpI, hI_sL, hI_sR, hN_sI, hN_sL, hN_sR, hN_cpI, hU_sI, hU_sL, hU_sR, hU_cpI, tn0, tn1, tn2, tn3, tn4, tn5, tn6, tn7, tn8, tn9, tn10, tn11, tn12, tn13, tn14, tn15, tn16, tn17, tn18, tn19, tn20, tn21, tn22, tn23, tn24, tn25, tn26, tn27, tn28, tn29, tn30, tn31, tn32, tn33, tn34, tn35, tn36, tn37, tn38, tn39, tn40, tn41, tn42, tn43, tn44, tn45, tn46, tn47, tn48, tn49, tn50, tn51, tn52, tn53, tn54, tn55, tn56, tn57, tn58, tn59, tn60, lH_eq, true_and, and_true, mdq_0 H, mdq_1 H, mds_1 H, vl7_0, vl7_1, vl7_2, vl7_3, vl7_4, vl7_5, vl7_6, hn, nI_le_iff (show i < 2 ^ 31 by omega) (show i < 2 ^ 31 by omega)]
    exact ⟨fun _ => ⟨e1, e2, k⟩, fun z => absurd (Nat.le_refl i) z⟩
  | n + 1, i, hi => by
    have ih := mf_loop hd m w nr H hw hn hr5 e1 e2 k n (i + 1) (by omega)
    refine wX12_firstTo_4 (by omega) m (nI w) _ (nI i) ?_
    simp only [rt_i, rt_b0, rt_b1, rt_v, rt_l, rt_o, rt_a, rV_none, rI_some, rL_some, rR_some, rT_some, rt_bI, hIf_sL, hIf_sR, hS_sI, hS_sL, hS_sR, hS_cpI, hR_sI, hR_sL, hR_cpI, hL_sI, hL_sR, hL_cpI, hI_sL, hI_sR, hN_sI, hN_sL, hN_sR, hN_cpI, hU_sI, hU_sL, hU_sR, hU_cpI, tn0, tn1, tn2, tn3, tn4, tn5, tn6, tn7, tn8, tn9, tn10, tn11, tn12, tn13, tn14, tn15, tn16, tn17, tn18, tn19, tn20, tn21, tn22, tn23, tn24, tn25, tn26, tn27, tn28, tn29, tn30, tn31, tn32, tn33, tn34, tn35, tn36, tn37, tn38, tn39, tn40, tn41, tn42, tn43, tn44, tn45, tn46, tn47, tn48, tn49, tn50, tn51, tn52, tn53, tn54, tn55, tn56, tn57, tn58, tn59, tn60, lH_eq, true_and, and_true, mdq_0 H, mdq_1 H, mds_1 H, mdq_5 H, mds_5 H, mdq_41 H, mds_41 H, vl7_0, vl7_1, vl7_2, vl7_3, vl7_4, vl7_5, vl7_6, hn, vp_in_nI (show i < 5 by omega) (show 5 < 2 ^ 31 by omega), nI_clamp (show i < 2 ^ 31 by omega), vp_in_nI (show w < 6 by omega) (show 6 < 2 ^ 31 by omega), nI_clamp (show w < 2 ^ 31 by omega), nI_le_iff (show nr < 2 ^ 31 by omega) (show i < 2 ^ 31 by omega), nI_1]
    refine ⟨fun z => absurd z (by omega), fun _ => ⟨fun z => ?_, fun z => ?_⟩⟩
    · simp only [ftF, if_neg z] at ih
      exact ih
    · simp only [ftF, if_pos z] at ih
      cases hb : ftF (hI h (m + 31)) (hI h (m + 4)) (hI h (m + 2)) (hI h (m + 5) w) w i with
      | none =>
        rw [hb] at ih
        exact ⟨fun _ => ih, fun z => absurd rfl z⟩
      | some b =>
        have hbl := ftF_lt _ _ _ _ _ _ _ hb
        rw [hb] at ih
        simp only at ih
        refine ⟨fun y => absurd y (nI_ne_m1 (by omega)), fun _ => ?_⟩
        refine m_isAhead (by omega) m i b _ H (by omega) (by omega) ?_
        simp only [rI_some, bI0]
        refine ⟨fun y => ?_, fun y => ?_⟩
        · rwa [if_neg y] at ih
        · rwa [if_pos (Decidable.not_not.mp y)] at ih
theorem m_firstTo {d : Nat} {h : AH} {Q : Option Value → AH → Prop} (hd : 6 ≤ d) (m w nr : Nat) (H : ModAt h m) (hw : w < 6) (hn : hI h (m + 1) 1 = nI nr) (hr5 : nr ≤ 5) (k : Q (some (.int (oI (ftF (hI h (m + 31)) (hI h (m + 4)) (hI h (m + 2)) (hI h (m + 5) w) w nr)))) h) : Calls d nX12_firstTo [.ref m, .int (nI w)] h (hN h) (hU h) Q := by
  obtain ⟨e, rfl⟩ : ∃ e, d = e + 1 := ⟨d - 1, by omega⟩
  exact wX12_firstTo (by omega) m (nI w) (mf_loop (by omega) m w nr H hw hn hr5 rfl rfl k nr 0 (by omega))

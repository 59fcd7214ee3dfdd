theorem m_canLend {d : Nat} {h : AH} {Q : Option Value → AH → Prop} (hd : 7 ≤ d) (m nr : Nat) (a b x : Int32) (H : ModAt h m) (hr5 : nr ≤ 5) (hn : hI h (m + 1) 1 = nI nr) (k : Q (some (.int (bI ((0 ≤ a ∧ a < nI nr) ∧ (0 ≤ b ∧ b < nI nr) ∧ a ≠ b ∧ -99 ≤ hI h (m + 2) a.toNatClampNeg - x ∧ hI h (m + 2) b.toNatClampNeg + x ≤ 99)))) h) : Calls d nX12_canLend [.ref m, .int a, .int b, .int x] h (hN h) (hU h) Q := by
  obtain ⟨e, rfl⟩ : ∃ e, d = e + 1 := ⟨d - 1, by omega⟩
  refine wX12_canLend (by omega) m a b x ?_
  simp only [rt_i, rt_b0, rt_b1, rt_v, rt_l, rt_o, rt_a, rV_none, rI_some, rL_some, rR_some, rT_some, rt_bI, hIf_sL, hIf_sR, hS_sI, hS_sL, hS_sR, hS_cpI, hR_sI, hR_sL, hR_cpI, hL_sI, hL_sR, hL_cpI, hI_sL, hI_sR, hN_sI, hN_sL, hN_sR, hN_cpI, hU_sI, hU_sL, hU_sR, hU_cpI, tn0, tn1, tn2, tn3, tn4, tn5, tn6, tn7, tn8, tn9, tn10, tn11, tn12, tn13, tn14, tn15, tn16, tn17, tn18, tn19, tn20, tn21, tn22, tn23, tn24, tn25, tn26, tn27, tn28, tn29, tn30, tn31, tn32, tn33, tn34, tn35, tn36, tn37, tn38, tn39, tn40, tn41, tn42, tn43, tn44, tn45, tn46, tn47, tn48, tn49, tn50, tn51, tn52, tn53, tn54, tn55, tn56, tn57, tn58, tn59, tn60, lH_eq, true_and, and_true, mdq_0 H, mdq_2 H, mds_2 H]
  refine m_isRunner (by omega) m nr a H hn hr5 ?_
  simp only [rI_some, bI0, mdq_0 H, true_and]
  refine ⟨fun z => ?_, fun z => ?_⟩
  · rwa [bI_f (fun y => z y.1)] at k
  refine m_isRunner (by omega) m nr b H hn hr5 ?_
  simp only [rI_some, bI0, true_and, rt_i, rt_b0, rt_b1, rt_v, rt_l, rt_o, rt_a, rV_none, rI_some, rL_some, rR_some, rT_some, rt_bI, hIf_sL, hIf_sR, hS_sI, hS_sL, hS_sR, hS_cpI, hR_sI, hR_sL, hR_cpI, hL_sI, hL_sR, hL_cpI, hI_sL, hI_sR, hN_sI, hN_sL, hN_sR, hN_cpI, hU_sI, hU_sL, hU_sR, hU_cpI, tn0, tn1, tn2, tn3, tn4, tn5, tn6, tn7, tn8, tn9, tn10, tn11, tn12, tn13, tn14, tn15, tn16, tn17, tn18, tn19, tn20, tn21, tn22, tn23, tn24, tn25, tn26, tn27, tn28, tn29, tn30, tn31, tn32, tn33, tn34, tn35, tn36, tn37, tn38, tn39, tn40, tn41, tn42, tn43, tn44, tn45, tn46, tn47, tn48, tn49, tn50, tn51, tn52, tn53, tn54, tn55, tn56, tn57, tn58, tn59, tn60, lH_eq, true_and, and_true, mdq_0 H, mdq_2 H, mds_2 H]
  refine ⟨fun y => ?_, fun y => ⟨fun x1 => ?_, fun x1 => ?_⟩⟩
  · rwa [bI_f (fun v => y v.2.1)] at k
  · rwa [bI_f (fun v => v.2.2.1 x1)] at k
  have z := Decidable.not_not.mp z
  have y := Decidable.not_not.mp y
  obtain ⟨i, hi, rfl⟩ := rn_of (by omega) z
  obtain ⟨j, hj, rfl⟩ := rn_of (by omega) y
  rw [nI_clamp (by omega), nI_clamp (by omega)] at k ⊢
  refine ⟨vp_in_nI (by omega) (by decide), fun x2 => ?_, fun x2 => ⟨vp_in_nI (by omega) (by decide), fun x3 => ?_, fun x3 => ?_⟩⟩
  · rwa [bI_f (fun v => absurd v.2.2.2.1 (Int32.not_le.mpr x2))] at k
  · rwa [bI_f (fun v => absurd v.2.2.2.2 (Int32.not_le.mpr x3))] at k
  · rwa [bI_t ⟨z, y, x1, i32_le_of x2, i32_le_of x3⟩] at k
theorem gv_ok {D : Int} {nr nw i r : Nat} {M : PC} (h : momOk D nr nw M) (hi : i < nr) (hr : r < nr) (hne : i ≠ r) (h1 : -99 ≤ M 2 i - 3) (h2 : M 2 r + 3 ≤ 99) : momOk D nr nw (gvM M i r 3) := by
  refine ⟨h.1, fun j hj => ⟨(h.2.1 j hj).1, ?_, (h.2.1 j hj).2.2⟩, h.2.2⟩
  have pi := (h.2.1 i hi).2.1
  have pr := (h.2.1 r hr).2.1
  have pj := (h.2.1 j hj).2.1
  have t3 : (3 : Int32).toInt = 3 := by decide
  have s1 := t_sub (a := M 2 i) (b := 3) (by omega) (by omega)
  have s2 := t_add (a := M 2 r) (b := 3) (by omega) (by omega)
  rw [Int32.le_iff_toInt_le, s1, t_m99, t3] at h1
  rw [Int32.le_iff_toInt_le, s2, t_99, t3] at h2
  simp only [gvM, if_true, gvF]
  by_cases c : j = r
  · rw [if_pos c, if_neg (fun z => hne z.symm), s2, t3]; omega
  · rw [if_neg c]
    by_cases c2 : j = i
    · rw [if_pos c2, s1, t3]; omega
    · rw [if_neg c2]; exact pj
noncomputable def aLender (nr nw : Nat) (A M : PC) (R : Option (List (List (Nat × Nat) × List (Nat × Nat)))) (q n w : Int32) : Int32 := if (0 ≤ q ∧ q < nI nr) ∧ (1 ≤ n ∧ n ≤ 60) ∧ (0 ≤ w ∧ w ≤ 1) then (if w = 0 then (blF (itF R A nr nw n.toNatClampNeg M 3 q.toNatClampNeg) (leL R A nr nw M q.toNatClampNeg n.toNatClampNeg) nr).1 else (blF (itF R A nr nw n.toNatClampNeg M 3 q.toNatClampNeg) (leL R A nr nw M q.toNatClampNeg n.toNatClampNeg) nr).2) else -2
theorem le2_loop {d E1 E2 : Nat} {Q : Option Value → AH → Prop} {h0 : AH} (hd : 15 ≤ d) (m nr nw r n : Nat) (A M : PC) (R : Option (List (List (Nat × Nat) × List (Nat × Nat)))) (w0 wh : Int32) (hr : r < nr) (hn : n ≤ 60) (H : QK h0 m nr nw A M R) (e1 : hN h0 = E1) (e2 : hU h0 = E2) (k : ∀ h', Rs h0 h' m → M5 h' m → Q (some (.int (if wh = 0 then (blF w0 (leL R A nr nw M r n) nr).1 else (blF w0 (leL R A nr nw M r n) nr).2))) h') : ∀ (l i : Nat) (h : AH), i + l = nr → Rs h0 h m → M5 h m → Reach d nX12_lender (51, [.ref m, .int (nI r), .int (nI n), .int wh, .int (blF w0 (leL R A nr nw M r n) i).1, .int (blF w0 (leL R A nr nw M r n) i).2, .int (nI i), .float 0], []) h E1 E2 Q
  | 0, i, h, hi, S, h5 => by
    have : i = nr := by omega
    subst this
    have HQ1 := H.rs S h5
    have HM := HQ1.1.1
    have e3 := S.1.1
    have hr5 := H.2.2.1
    refine wX12_lender_51 (by omega) m (nI r) (nI n) wh _ _ (nI i) ?_
    simp only [rt_i, rt_b0, rt_b1, rt_v, rt_l, rt_o, rt_a, rV_none, rI_some, rL_some, rR_some, rT_some, rt_bI, hIf_sL, hIf_sR, hS_sI, hS_sL, hS_sR, hS_cpI, hR_sI, hR_sL, hR_cpI, hL_sI, hL_sR, hL_cpI, hI_sL, hI_sR, hN_sI, hN_sL, hN_sR, hN_cpI, hU_sI, hU_sL, hU_sR, hU_cpI, tn0, tn1, tn2, tn3, tn4, tn5, tn6, tn7, tn8, tn9, tn10, tn11, tn12, tn13, tn14, tn15, tn16, tn17, tn18, tn19, tn20, tn21, tn22, tn23, tn24, tn25, tn26, tn27, tn28, tn29, tn30, tn31, tn32, tn33, tn34, tn35, tn36, tn37, tn38, tn39, tn40, tn41, tn42, tn43, tn44, tn45, tn46, tn47, tn48, tn49, tn50, tn51, tn52, tn53, tn54, tn55, tn56, tn57, tn58, tn59, tn60, lH_eq, true_and, and_true, mdq_0 HM, mdq_1 HM, mds_1 HM, vl7_0, vl7_1, vl7_2, vl7_3, vl7_4, vl7_5, vl7_6, HQ1.1.2.1.1, nI_le_iff (show i < 2 ^ 31 by omega) (show i < 2 ^ 31 by omega)]
    have kk := k h S h5
    refine ⟨fun _ => ⟨fun z => ?_, fun z => ?_⟩, fun z => absurd (Nat.le_refl i) z⟩
    · rw [if_neg z] at kk; exact ⟨e3.2.2.1.trans e1, e3.2.2.2.1.trans e2, kk⟩
    · rw [if_pos z] at kk; exact ⟨e3.2.2.1.trans e1, e3.2.2.2.1.trans e2, kk⟩
  | l + 1, i, h, hi, S, h5 => by
    have HQ1 := H.rs S h5
    have HM := HQ1.1.1
    have e3 := S.1.1
    have hok := H.of_r (by omega)
    have hr5 := hok.1.1
    have go := fun h1 S1 h51 => le2_loop (E1 := E1) (E2 := E2) (Q := Q) hd m nr nw r n A M R w0 wh hr hn H e1 e2 k l (i + 1) h1 (by omega) S1 h51
    have hs : blF w0 (leL R A nr nw M r n) (i + 1) = match leL R A nr nw M r n i with
      | none => blF w0 (leL R A nr nw M r n) i
      | some v => if (blF w0 (leL R A nr nw M r n) i).2 < v then (nI i, v) else blF w0 (leL R A nr nw M r n) i := rfl
    have p1 : hI h (m + 2) i = M 2 i := (HQ1.1.2.2.1.2.1 i (by omega)).2.1
    have p2 : hI h (m + 2) r = M 2 r := (HQ1.1.2.2.1.2.1 r hr).2.1
    refine wX12_lender_51 (by omega) m (nI r) (nI n) wh _ _ (nI i) ?_
    simp only [rt_i, rt_b0, rt_b1, rt_v, rt_l, rt_o, rt_a, rV_none, rI_some, rL_some, rR_some, rT_some, rt_bI, hIf_sL, hIf_sR, hS_sI, hS_sL, hS_sR, hS_cpI, hR_sI, hR_sL, hR_cpI, hL_sI, hL_sR, hL_cpI, hI_sL, hI_sR, hN_sI, hN_sL, hN_sR, hN_cpI, hU_sI, hU_sL, hU_sR, hU_cpI, tn0, tn1, tn2, tn3, tn4, tn5, tn6, tn7, tn8, tn9, tn10, tn11, tn12, tn13, tn14, tn15, tn16, tn17, tn18, tn19, tn20, tn21, tn22, tn23, tn24, tn25, tn26, tn27, tn28, tn29, tn30, tn31, tn32, tn33, tn34, tn35, tn36, tn37, tn38, tn39, tn40, tn41, tn42, tn43, tn44, tn45, tn46, tn47, tn48, tn49, tn50, tn51, tn52, tn53, tn54, tn55, tn56, tn57, tn58, tn59, tn60, lH_eq, true_and, and_true, mdq_0 HM, mdq_1 HM, mds_1 HM, mdq_2 HM, mds_2 HM, vl7_0, vl7_1, vl7_2, vl7_3, vl7_4, vl7_5, vl7_6, HQ1.1.2.1.1, nI_le_iff (show nr < 2 ^ 31 by omega) (show i < 2 ^ 31 by omega), vp_in_nI (show i < 5 by omega) (show 5 < 2 ^ 31 by omega), nI_clamp (show i < 2 ^ 31 by omega), vp_in_nI (show r < 5 by omega) (show 5 < 2 ^ 31 by omega), nI_clamp (show r < 2 ^ 31 by omega), nI_1]
    refine ⟨fun z => absurd z (by omega), fun _ => ?_⟩
    refine m_canLend (by omega) m nr (nI i) (nI r) 3 HM hr5 HQ1.1.2.1.1 ?_
    simp only [rI_some, bI0, rt_i, rt_b0, rt_b1, rt_v, rt_l, rt_o, rt_a, rV_none, rI_some, rL_some, rR_some, rT_some, rt_bI, hIf_sL, hIf_sR, hS_sI, hS_sL, hS_sR, hS_cpI, hR_sI, hR_sL, hR_cpI, hL_sI, hL_sR, hL_cpI, hI_sL, hI_sR, hN_sI, hN_sL, hN_sR, hN_cpI, hU_sI, hU_sL, hU_sR, hU_cpI, tn0, tn1, tn2, tn3, tn4, tn5, tn6, tn7, tn8, tn9, tn10, tn11, tn12, tn13, tn14, tn15, tn16, tn17, tn18, tn19, tn20, tn21, tn22, tn23, tn24, tn25, tn26, tn27, tn28, tn29, tn30, tn31, tn32, tn33, tn34, tn35, tn36, tn37, tn38, tn39, tn40, tn41, tn42, tn43, tn44, tn45, tn46, tn47, tn48, tn49, tn50, tn51, tn52, tn53, tn54, tn55, tn56, tn57, tn58, tn59, tn60, lH_eq, true_and, and_true, mdq_0 HM, mdq_1 HM, mds_1 HM, mdq_2 HM, mds_2 HM, vp_in_nI (show i < 5 by omega) (show 5 < 2 ^ 31 by omega), nI_clamp (show i < 2 ^ 31 by omega), vp_in_nI (show r < 5 by omega) (show 5 < 2 ^ 31 by omega), nI_clamp (show r < 2 ^ 31 by omega), p1, p2]
    have cd : ((0 ≤ nI i ∧ nI i < nI nr) ∧ (0 ≤ nI r ∧ nI r < nI nr) ∧ nI i ≠ nI r ∧ -99 ≤ M 2 i - 3 ∧ M 2 r + 3 ≤ 99) = (i ≠ r ∧ -99 ≤ M 2 i - 3 ∧ M 2 r + 3 ≤ 99) := by
      have z0 : ∀ x : Nat, x < 100 → (0 ≤ nI x) = True := fun x hx => eq_true (by rw [show (0 : Int32) = nI 0 from rfl, nI_le_iff (by decide) (by omega)]; omega)
      rw [z0 i (by omega), z0 r (by omega), nI_lt_iff (show i < 2 ^ 31 by omega) (show nr < 2 ^ 31 by omega), nI_lt_iff (show r < 2 ^ 31 by omega) (show nr < 2 ^ 31 by omega)]
      simp only [ne_eq, nI_eq_iff (show i < 2 ^ 31 by omega) (show r < 2 ^ 31 by omega), hr, show i < nr by omega, true_and]
    simp only [cd]
    refine ⟨fun z => ?_, fun z => ?_⟩
    · have hl : leL R A nr nw M r n i = none := by unfold leL; rw [if_neg z]
      rw [hl] at hs
      rw [hs] at go
      exact go h S h5
    · have z := Decidable.not_not.mp z
      have hl : leL R A nr nw M r n i = some (itF R A nr nw n (gvM M i r 3) 3 r) := by unfold leL; rw [if_pos z]
      rw [hl] at hs
      simp only at hs
      have f2 : Fr' h (sI (sI h (m + 2) i (M 2 i - 3)) (m + 2) r (hI (sI h (m + 2) i (M 2 i - 3)) (m + 2) r + 3)) (fun c => c = m + 2) := (Fr'.sI (S := fun c => c = m + 2) rfl).trans (Fr'.sI rfl)
      have Hq : QC (sI (sI h (m + 2) i (M 2 i - 3)) (m + 2) r (hI (sI h (m + 2) i (M 2 i - 3)) (m + 2) r + 3)) m nr nw A (gvM M i r 3) R (fun _ => none) := by
        refine qc_row2 HQ1.1 f2 rfl (fun j hj => ⟨rfl, rfl, ?_⟩) (fun j hj => ⟨rfl, rfl⟩)
        have pj : hI h (m + 2) j = M 2 j := (HQ1.1.2.2.1.2.1 j hj).2.1
        simp only [hI_sI, if_true, gvM, gvF, pj, p2, p1]
      refine q_wealthIn (h0 := h0) (by omega) m nr nw r n A (gvM M i r 3) R (D := 999) (by omega) (by omega) hr hok.1 (gv_ok hok.2 (by omega) hr z.1 z.2.1 z.2.2) H.1.1 (S.1.wr f2 (fun c z => by omega)) Hq (fun h2 S2 m2 => ?_)
      have h52 : M5 h2 m := fun j hj => by rw [m2, f2.2.2.2.2.1 (m + 32) (by omega)]; exact h5 j hj
      rw [rI_some]
      rw [hs] at go
      refine ⟨fun x => ?_, fun x => ?_⟩
      · rw [if_neg (Int32.not_lt.mpr x)] at go
        exact go h2 S2 h52
      · rw [if_pos (i32_lt_of x)] at go
        exact go h2 S2 h52
theorem m_lender {d : Nat} {h : AH} {Q : Option Value → AH → Prop} (hd : 16 ≤ d) (m nr nw : Nat) (A M : PC) (R : Option (List (List (Nat × Nat) × List (Nat × Nat)))) (q n w : Int32) (H : QK h m nr nw A M R) (kk : ∀ h', Rs h h' m → M5 h' m → Q (some (.int (aLender nr nw A M R q n w))) h') (kk0 : aLender nr nw A M R q n w = -2 → Q (some (.int (-2))) h) : Calls d nX12_lender [.ref m, .int q, .int n, .int w] h (hN h) (hU h) Q := by
  obtain ⟨e, rfl⟩ : ∃ e, d = e + 1 := ⟨d - 1, by omega⟩
  have HQ := H
  obtain ⟨HC, H5, hr5, hw6, hh⟩ := H
  refine wX12_lender (by omega) m q n w ?_
  simp only [rt_i, rt_b0, rt_b1, rt_v, rt_l, rt_o, rt_a, rV_none, rI_some, rL_some, rR_some, rT_some, rt_bI, hIf_sL, hIf_sR, hS_sI, hS_sL, hS_sR, hS_cpI, hR_sI, hR_sL, hR_cpI, hL_sI, hL_sR, hL_cpI, hI_sL, hI_sR, hN_sI, hN_sL, hN_sR, hN_cpI, hU_sI, hU_sL, hU_sR, hU_cpI, tn0, tn1, tn2, tn3, tn4, tn5, tn6, tn7, tn8, tn9, tn10, tn11, tn12, tn13, tn14, tn15, tn16, tn17, tn18, tn19, tn20, tn21, tn22, tn23, tn24, tn25, tn26, tn27, tn28, tn29, tn30, tn31, tn32, tn33, tn34, tn35, tn36, tn37, tn38, tn39, tn40, tn41, tn42, tn43, tn44, tn45, tn46, tn47, tn48, tn49, tn50, tn51, tn52, tn53, tn54, tn55, tn56, tn57, tn58, tn59, tn60, lH_eq, true_and, and_true, mdq_0 HC.1]
  refine m_isRunner (by omega) m nr q HC.1 HC.2.1.1 hr5 ?_
  simp only [rI_some, bI0, mdq_0 HC.1, true_and]
  refine ⟨fun z => kk0 (by unfold aLender; rw [if_neg (fun y => z y.1)]), fun z => ?_⟩
  refine m_in32 (by omega) n 1 60 rfl rfl rfl ?_
  simp only [rI_some, bI0, mdq_0 HC.1, true_and]
  refine ⟨fun y => kk0 (by unfold aLender; rw [if_neg (fun x => y x.2.1)]), fun y => ?_⟩
  refine m_in32 (by omega) w 0 1 rfl rfl rfl ?_
  simp only [rI_some, bI0, mdq_0 HC.1, true_and]
  refine ⟨fun x => ?_, fun x => kk0 (by unfold aLender; rw [if_neg (fun v => x v.2.2)])⟩
  have z := Decidable.not_not.mp z
  have y := Decidable.not_not.mp y
  have x := Decidable.not_not.mp x
  obtain ⟨r, hr, rfl⟩ := rn_of (by omega) z
  obtain ⟨nn, hn1, hn2, rfl⟩ := rg1_of (n := 60) rfl (by decide) y
  have hok := HQ.of_r (by omega)
  have ea : aLender nr nw A M R (nI r) (nI nn) w = if w = 0 then (blF (itF R A nr nw nn M 3 r) (leL R A nr nw M r nn) nr).1 else (blF (itF R A nr nw nn M 3 r) (leL R A nr nw M r nn) nr).2 := by
    unfold aLender
    rw [if_pos ⟨z, y, x⟩, nI_clamp (by omega), nI_clamp (by omega)]
  rw [ea] at kk
  refine QK.keep (d := e) (by omega) HQ (fun h1 S1 m1 H1 => ?_)
  simp only [rV_none, S1.1.1.1, mdq_0 HC.1, true_and]
  refine q_wealthIn (h0 := h) (by omega) m nr nw r nn A M R (D := 999) (by omega) (by omega) hr hok.1 hok.2 HC.1 S1.1 H1 (fun h2 S2 m2 => ?_)
  rw [rI_some]
  exact le2_loop (h0 := h) (by omega) m nr nw r nn A M R _ w hr hn2 HQ rfl rfl kk nr 0 h2 (by omega) S2 (fun j hj => by rw [m2, m1]; exact H5 j hj)

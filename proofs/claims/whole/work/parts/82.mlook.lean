noncomputable def gLk (nr nw : Nat) (A : PC) (cls : List (List (List (Nat × Nat) × List (Nat × Nat)))) (n : Nat) (j w : Nat) : Int32 := itF (Rr cls j) A nr nw (n + 1) (begM A) 5 w
noncomputable def lkA (nr nw : Nat) (A : PC) (cls : List (List (List (Nat × Nat) × List (Nat × Nat)))) (ns : List (Nat × Nat × Int32)) (n : Nat) (w : Nat) : Nat := maF (fun k => gLk nr nw A cls n (ixF (ftB cls A nr nw ns) (cls.length + 1) k) w) (ctF (ftB cls A nr nw ns) (cls.length + 1)) (ctF (ftB cls A nr nw ns) (cls.length + 1))
noncomputable def aLook (nr nw : Nat) (A : PC) (cls : List (List (List (Nat × Nat) × List (Nat × Nat)))) (ns : List (Nat × Nat × Int32)) (n w : Int32) : Int32 := if 0 < A 0 0 ∧ (0 ≤ n ∧ n ≤ 60) ∧ (0 ≤ w ∧ w ≤ 1) then lkV (lkA nr nw A cls ns n.toNatClampNeg) (ctF (ftB cls A nr nw ns) (cls.length + 1)) nw w else -1
theorem bwF_lt2 (al : Nat → Nat) (n : Nat) : bwF al (n + 1) ≤ n := by
  have := bwF_lt al n
  simp only [bwF]
  split
  · omega
  · split <;> omega
theorem lo129 {d E1 E2 : Nat} {Q : Option Value → AH → Prop} {h : AH} (hd : 5 ≤ d) (m b nw : Nat) (G : Nat → Nat → Int32) (wh : Int32) (H : ModAt h m) (hn : hI h (m + 1) 2 = nI nw) (hb : b ≤ 7) (hb0 : 0 < b) (hw6 : nw ≤ 6) (hw0 : 0 < nw) (hg : ∀ k, k < b → ∀ w, w < nw → hI h (m + 41) (6 * k + w) = G k w) (e1 : hN h = E1) (e2 : hU h = E2) (k : Q (some (.int (lkV (fun w => maF (fun k => G k w) b b) b nw wh))) h) : ∀ n i : Nat, (i + 1) + n = nw → Reach d nX12_look (129, [.ref m, .float 0, .int wh, .int (nI b), .int (nI (bwF (fun w => maF (fun k => G k w) b b) (i + 1))), .int (nI (i + 1))], []) h E1 E2 Q
  | 0, i, hi => by
    have : nw = i + 1 := by omega
    subst this
    have hl := bwF_lt2 (fun w => maF (fun k => G k w) b b) i
    refine wX12_look_129 (by omega) m wh (nI b) _ (nI (i + 1)) ?_
    simp only [rt_i, rt_b0, rt_b1, rt_v, rt_l, rt_o, rt_a, rV_none, rI_some, rL_some, rR_some, rT_some, rt_bI, hIf_sL, hIf_sR, hS_sI, hS_sL, hS_sR, hS_cpI, hR_sI, hR_sL, hR_cpI, hL_sI, hL_sR, hL_cpI, hI_sL, hI_sR, hN_sI, hN_sL, hN_sR, hN_cpI, hU_sI, hU_sL, hU_sR, hU_cpI, tn0, tn1, tn2, tn3, tn4, tn5, tn6, tn7, tn8, tn9, tn10, tn11, tn12, tn13, tn14, tn15, tn16, tn17, tn18, tn19, tn20, tn21, tn22, tn23, tn24, tn25, tn26, tn27, tn28, tn29, tn30, tn31, tn32, tn33, tn34, tn35, tn36, tn37, tn38, tn39, tn40, tn41, tn42, tn43, tn44, tn45, tn46, tn47, tn48, tn49, tn50, tn51, tn52, tn53, tn54, tn55, tn56, tn57, tn58, tn59, tn60, lH_eq, true_and, and_true, mdq_0 H, mdq_1 H, mds_1 H, vl7_0, vl7_1, vl7_2, vl7_3, vl7_4, vl7_5, vl7_6, hn, nI_le_iff (show i + 1 < 2 ^ 31 by omega) (show i + 1 < 2 ^ 31 by omega)]
    unfold lkV at k
    rw [if_neg (by omega)] at k
    refine ⟨fun _ => ⟨fun z => ?_, fun z => ?_⟩, fun z => absurd (Nat.le_refl _) z⟩
    · rw [if_neg z] at k
      refine m_mostAlike (by omega) m _ b (fun k => G k (bwF (fun w => maF (fun k => G k w) b b) (i + 1))) H hb (by omega) (fun k hk => hg k hk _ (by omega)) ?_
      simp only [rI_some, rt_i, rt_b0, rt_b1, rt_v, rt_l, rt_o, rt_a, rV_none, rI_some, rL_some, rR_some, rT_some, rt_bI, hIf_sL, hIf_sR, hS_sI, hS_sL, hS_sR, hS_cpI, hR_sI, hR_sL, hR_cpI, hL_sI, hL_sR, hL_cpI, hI_sL, hI_sR, hN_sI, hN_sL, hN_sR, hN_cpI, hU_sI, hU_sL, hU_sR, hU_cpI, tn0, tn1, tn2, tn3, tn4, tn5, tn6, tn7, tn8, tn9, tn10, tn11, tn12, tn13, tn14, tn15, tn16, tn17, tn18, tn19, tn20, tn21, tn22, tn23, tn24, tn25, tn26, tn27, tn28, tn29, tn30, tn31, tn32, tn33, tn34, tn35, tn36, tn37, tn38, tn39, tn40, tn41, tn42, tn43, tn44, tn45, tn46, tn47, tn48, tn49, tn50, tn51, tn52, tn53, tn54, tn55, tn56, tn57, tn58, tn59, tn60, lH_eq, true_and, and_true]
      exact ⟨e1, e2, k⟩
    · rw [if_pos z] at k
      exact ⟨e1, e2, k⟩
  | n + 1, i, hi => by
    have ih := lo129 hd m b nw G wh H hn hb hb0 hw6 hw0 hg e1 e2 k n (i + 1) (by omega)
    have hl := bwF_lt2 (fun w => maF (fun k => G k w) b b) i
    have l1 := maF_le (fun k => G k (i + 1)) b b
    have l2 := maF_le (fun k => G k (bwF (fun w => maF (fun k => G k w) b b) (i + 1))) b b
    have es : bwF (fun w => maF (fun k => G k w) b b) (i + 1 + 1) = if maF (fun k => G k (i + 1)) b b < maF (fun k => G k (bwF (fun w => maF (fun k => G k w) b b) (i + 1))) b b then i + 1 else bwF (fun w => maF (fun k => G k w) b b) (i + 1) := by rw [bwF, if_neg (by omega)]
    rw [es] at ih
    refine wX12_look_129 (by omega) m wh (nI b) _ (nI (i + 1)) ?_
    simp only [rt_i, rt_b0, rt_b1, rt_v, rt_l, rt_o, rt_a, rV_none, rI_some, rL_some, rR_some, rT_some, rt_bI, hIf_sL, hIf_sR, hS_sI, hS_sL, hS_sR, hS_cpI, hR_sI, hR_sL, hR_cpI, hL_sI, hL_sR, hL_cpI, hI_sL, hI_sR, hN_sI, hN_sL, hN_sR, hN_cpI, hU_sI, hU_sL, hU_sR, hU_cpI, tn0, tn1, tn2, tn3, tn4, tn5, tn6, tn7, tn8, tn9, tn10, tn11, tn12, tn13, tn14, tn15, tn16, tn17, tn18, tn19, tn20, tn21, tn22, tn23, tn24, tn25, tn26, tn27, tn28, tn29, tn30, tn31, tn32, tn33, tn34, tn35, tn36, tn37, tn38, tn39, tn40, tn41, tn42, tn43, tn44, tn45, tn46, tn47, tn48, tn49, tn50, tn51, tn52, tn53, tn54, tn55, tn56, tn57, tn58, tn59, tn60, lH_eq, true_and, and_true, mdq_0 H, mdq_1 H, mds_1 H, vl7_0, vl7_1, vl7_2, vl7_3, vl7_4, vl7_5, vl7_6, hn, nI_le_iff (show nw < 2 ^ 31 by omega) (show i + 1 < 2 ^ 31 by omega), nI_1]
    refine ⟨fun z => absurd z (by omega), fun _ => ?_⟩
    refine m_mostAlike (by omega) m (i + 1) b (fun k => G k (i + 1)) H hb (by omega) (fun k hk => hg k hk _ (by omega)) ?_
    simp only [rI_some, rt_i, rt_b0, rt_b1, rt_v, rt_l, rt_o, rt_a, rV_none, rI_some, rL_some, rR_some, rT_some, rt_bI, hIf_sL, hIf_sR, hS_sI, hS_sL, hS_sR, hS_cpI, hR_sI, hR_sL, hR_cpI, hL_sI, hL_sR, hL_cpI, hI_sL, hI_sR, hN_sI, hN_sL, hN_sR, hN_cpI, hU_sI, hU_sL, hU_sR, hU_cpI, tn0, tn1, tn2, tn3, tn4, tn5, tn6, tn7, tn8, tn9, tn10, tn11, tn12, tn13, tn14, tn15, tn16, tn17, tn18, tn19, tn20, tn21, tn22, tn23, tn24, tn25, tn26, tn27, tn28, tn29, tn30, tn31, tn32, tn33, tn34, tn35, tn36, tn37, tn38, tn39, tn40, tn41, tn42, tn43, tn44, tn45, tn46, tn47, tn48, tn49, tn50, tn51, tn52, tn53, tn54, tn55, tn56, tn57, tn58, tn59, tn60, lH_eq, true_and, and_true, mdq_0 H]
    refine m_mostAlike (by omega) m _ b (fun k => G k (bwF (fun w => maF (fun k => G k w) b b) (i + 1))) H hb (by omega) (fun k hk => hg k hk _ (by omega)) ?_
    simp only [rI_some, rt_i, rt_b0, rt_b1, rt_v, rt_l, rt_o, rt_a, rV_none, rI_some, rL_some, rR_some, rT_some, rt_bI, hIf_sL, hIf_sR, hS_sI, hS_sL, hS_sR, hS_cpI, hR_sI, hR_sL, hR_cpI, hL_sI, hL_sR, hL_cpI, hI_sL, hI_sR, hN_sI, hN_sL, hN_sR, hN_cpI, hU_sI, hU_sL, hU_sR, hU_cpI, tn0, tn1, tn2, tn3, tn4, tn5, tn6, tn7, tn8, tn9, tn10, tn11, tn12, tn13, tn14, tn15, tn16, tn17, tn18, tn19, tn20, tn21, tn22, tn23, tn24, tn25, tn26, tn27, tn28, tn29, tn30, tn31, tn32, tn33, tn34, tn35, tn36, tn37, tn38, tn39, tn40, tn41, tn42, tn43, tn44, tn45, tn46, tn47, tn48, tn49, tn50, tn51, tn52, tn53, tn54, tn55, tn56, tn57, tn58, tn59, tn60, lH_eq, true_and, and_true, nI_le_iff (show maF (fun k => G k (bwF (fun w => maF (fun k => G k w) b b) (i + 1))) b b < 2 ^ 31 by omega) (show maF (fun k => G k (i + 1)) b b < 2 ^ 31 by omega)]
    refine ⟨fun z => ?_, fun z => ?_⟩
    · rwa [if_neg (by omega)] at ih
    · rwa [if_pos (by omega)] at ih
theorem lo40 {d E1 E2 : Nat} {Q : Option Value → AH → Prop} {h0 : AH} (hd : 12 ≤ d) (m nr nw n0 : Nat) (A M : PC) (R : Option (List (List (Nat × Nat) × List (Nat × Nat)))) (cls : List (List (List (Nat × Nat) × List (Nat × Nat)))) (ns : List (Nat × Nat × Int32)) (wh : Int32) (hn0 : n0 ≤ 60) (hA : hilOk nr nw A) (H0 : QK h0 m nr nw A M R) (L0 : QL h0 m nr nw cls ns) (e1 : hN h0 = E1) (e2 : hU h0 = E2) (k : ∀ h', Rs h0 h' m → M5 h' m → Q (some (.int (lkV (lkA nr nw A cls ns n0) (ctF (ftB cls A nr nw ns) (cls.length + 1)) nw wh))) h') : ∀ (n i : Nat) (h : AH), i + n = cls.length + 1 → Rs h0 h m → M5 h m → (∀ k, k < ctF (ftB cls A nr nw ns) i → ∀ w, w < nw → hI h (m + 41) (6 * k + w) = gLk nr nw A cls n0 (ixF (ftB cls A nr nw ns) i k) w) → Reach d nX12_look (40, [.ref m, .int (nI n0), .int wh, .int (nI (ctF (ftB cls A nr nw ns) i)), .int (cI i), .float 0], []) h E1 E2 Q
  | 0, i, h, hi, S, h5, HG => by
    have : i = cls.length + 1 := by omega
    subst this
    have h6 := L0.2.1
    have hw6 := hA.2.1
    have HQ := H0.rs S h5
    have HM := HQ.1.1
    have kk := k h S h5
    have e3 := S.1.1
    have cl := ctF_le (ftB cls A nr nw ns) (cls.length + 1)
    have en : hI h (m + 1) 2 = nI nw := HQ.1.2.1.2.1
    have c0 : (nI (ctF (ftB cls A nr nw ns) (cls.length + 1)) = 0) = (ctF (ftB cls A nr nw ns) (cls.length + 1) = 0) := nI_eq_iff (b := 0) (by omega) (by decide)
    have c1 : (nI nw = 0) = (nw = 0) := nI_eq_iff (b := 0) (by omega) (by decide)
    refine wX12_look_40 (by omega) m (nI n0) wh _ _ ?_
    simp only [rt_i, rt_b0, rt_b1, rt_v, rt_l, rt_o, rt_a, rV_none, rI_some, rL_some, rR_some, rT_some, rt_bI, hIf_sL, hIf_sR, hS_sI, hS_sL, hS_sR, hS_cpI, hR_sI, hR_sL, hR_cpI, hL_sI, hL_sR, hL_cpI, hI_sL, hI_sR, hN_sI, hN_sL, hN_sR, hN_cpI, hU_sI, hU_sL, hU_sR, hU_cpI, tn0, tn1, tn2, tn3, tn4, tn5, tn6, tn7, tn8, tn9, tn10, tn11, tn12, tn13, tn14, tn15, tn16, tn17, tn18, tn19, tn20, tn21, tn22, tn23, tn24, tn25, tn26, tn27, tn28, tn29, tn30, tn31, tn32, tn33, tn34, tn35, tn36, tn37, tn38, tn39, tn40, tn41, tn42, tn43, tn44, tn45, tn46, tn47, tn48, tn49, tn50, tn51, tn52, tn53, tn54, tn55, tn56, tn57, tn58, tn59, tn60, lH_eq, true_and, and_true, mdq_0 HM, mdq_1 HM, mds_1 HM, vl7_0, vl7_1, vl7_2, vl7_3, vl7_4, vl7_5, vl7_6, en, (L0.rs S).1, cI_ge (show cls.length + 1 < 1000 by omega) (show cls.length < 1000 by omega), c0, c1]
    refine ⟨fun _ => ⟨fun z => ?_, fun z => ⟨fun y => ?_, fun y => ?_⟩⟩, fun z => absurd (Nat.lt_succ_self _) z⟩
    · unfold lkV at kk
      rw [if_pos (Or.inl z)] at kk
      exact ⟨e3.2.2.1.trans e1, e3.2.2.2.1.trans e2, kk⟩
    · exact lo129 (by omega) m _ nw (fun k w => gLk nr nw A cls n0 (ixF (ftB cls A nr nw ns) (cls.length + 1) k) w) wh HM en (by omega) (by omega) hw6 (by omega) HG (e3.2.2.1.trans e1) (e3.2.2.2.1.trans e2) kk (nw - 1) 0 (by omega)
    · unfold lkV at kk
      rw [if_pos (Or.inr y)] at kk
      exact ⟨e3.2.2.1.trans e1, e3.2.2.2.1.trans e2, kk⟩
  | n + 1, i, h, hi, S, h5, HG => by
    have h6 := L0.2.1
    have HM := H0.1.1.fr S.1.1
    have cl := ctF_le (ftB cls A nr nw ns) i
    refine wX12_look_40 (by omega) m (nI n0) wh _ _ ?_
    simp only [rt_i, rt_b0, rt_b1, rt_v, rt_l, rt_o, rt_a, rV_none, rI_some, rL_some, rR_some, rT_some, rt_bI, hIf_sL, hIf_sR, hS_sI, hS_sL, hS_sR, hS_cpI, hR_sI, hR_sL, hR_cpI, hL_sI, hL_sR, hL_cpI, hI_sL, hI_sR, hN_sI, hN_sL, hN_sR, hN_cpI, hU_sI, hU_sL, hU_sR, hU_cpI, tn0, tn1, tn2, tn3, tn4, tn5, tn6, tn7, tn8, tn9, tn10, tn11, tn12, tn13, tn14, tn15, tn16, tn17, tn18, tn19, tn20, tn21, tn22, tn23, tn24, tn25, tn26, tn27, tn28, tn29, tn30, tn31, tn32, tn33, tn34, tn35, tn36, tn37, tn38, tn39, tn40, tn41, tn42, tn43, tn44, tn45, tn46, tn47, tn48, tn49, tn50, tn51, tn52, tn53, tn54, tn55, tn56, tn57, tn58, tn59, tn60, lH_eq, true_and, and_true, mdq_0 HM, (L0.rs S).1, cI_ge (show i < 1000 by omega) (show cls.length < 1000 by omega)]
    refine ⟨fun z => absurd z (by omega), fun _ => ?_⟩
    refine m_couldRule (h0 := h0) (by omega) m nr nw i A M R cls ns hA H0 L0 (by omega) S h5 (fun h' S' M' HY h41 => ?_)
    have ih := fun h' => lo40 hd m nr nw n0 A M R cls ns wh hn0 hA H0 L0 e1 e2 k n (i + 1) h' (by omega)
    simp only [rI_some, bI0]
    refine ⟨fun z => ?_, fun z => ?_⟩
    · have ec : ctF (ftB cls A nr nw ns) (i + 1) = ctF (ftB cls A nr nw ns) i := by simp [ctF, z]
      have := ih h' S' M' (fun k hk w hw => by
        rw [ec] at hk
        have ex : ixF (ftB cls A nr nw ns) (i + 1) k = ixF (ftB cls A nr nw ns) i k := by simp [ixF, z]
        rw [ex, h41]
        exact HG k hk w hw)
      rw [ec] at this
      rw [cI_up]
      exact this
    · have z := Decidable.not_not.mp z
      have ec : ctF (ftB cls A nr nw ns) (i + 1) = ctF (ftB cls A nr nw ns) i + 1 := by simp [ctF, z]
      refine lo61 (by omega) m n0 (ctF (ftB cls A nr nw ns) i) wh (cI i) hn0 (by omega) 6 0 h' (by omega) (H0.1.1.fr S'.1.1) (fun h2 f2 q2 => ?_)
      have S2 := S'.1.wr f2 (fun c z => by omega)
      have := ih h2 ⟨S2, fun r hr j hj => by rw [f2.2.2.2.2.1 (m + r) (by have := six_rows r hr; omega)]; exact S'.2 r hr j hj⟩ (fun j hj => by rw [f2.2.2.2.2.1 (m + 32) (by omega)]; exact M' j hj) (fun k hk w hw => by
        have hw6 := hA.2.1
        rw [ec] at hk
        rw [q2]
        by_cases c : k = ctF (ftB cls A nr nw ns) i
        · have ex : ixF (ftB cls A nr nw ns) (i + 1) k = i := by simp [ixF, z, c]
          rw [ex, c, if_pos (by omega), show 6 * n0 + (6 * ctF (ftB cls A nr nw ns) i + w - 6 * ctF (ftB cls A nr nw ns) i) = 6 * n0 + w by omega]
          exact HY n0 (by omega) w hw
        · have ex : ixF (ftB cls A nr nw ns) (i + 1) k = ixF (ftB cls A nr nw ns) i k := by simp [ixF, c]
          rw [ex, if_neg (by omega), h41]
          exact HG k (by omega) w hw)
      rw [ec] at this
      rw [cI_up]
      exact this
theorem m_look {d : Nat} {h : AH} {Q : Option Value → AH → Prop} (hd : 13 ≤ d) (m nr nw : Nat) (A M : PC) (R : Option (List (List (Nat × Nat) × List (Nat × Nat)))) (cls : List (List (List (Nat × Nat) × List (Nat × Nat)))) (ns : List (Nat × Nat × Int32)) (n w : Int32) (H : QK h m nr nw A M R) (L0 : QL h m nr nw cls ns) (kk : ∀ h', Rs h h' m → M5 h' m → Q (some (.int (aLook nr nw A cls ns n w))) h') (kk0 : aLook nr nw A cls ns n w = -1 → Q (some (.int (-1))) h) : Calls d nX12_look [.ref m, .int n, .int w] h (hN h) (hU h) Q := by
  obtain ⟨e, rfl⟩ : ∃ e, d = e + 1 := ⟨d - 1, by omega⟩
  have HQ := H
  obtain ⟨HC, H5, hr5, hw6, hh⟩ := H
  have e0 : hI h (m + 1) 0 = A 0 0 := HC.2.1.2.2.1.1
  refine wX12_look (by omega) m n w ?_
  simp only [rt_i, rt_b0, rt_b1, rt_v, rt_l, rt_o, rt_a, rV_none, rI_some, rL_some, rR_some, rT_some, rt_bI, hIf_sL, hIf_sR, hS_sI, hS_sL, hS_sR, hS_cpI, hR_sI, hR_sL, hR_cpI, hL_sI, hL_sR, hL_cpI, hI_sL, hI_sR, hN_sI, hN_sL, hN_sR, hN_cpI, hU_sI, hU_sL, hU_sR, hU_cpI, tn0, tn1, tn2, tn3, tn4, tn5, tn6, tn7, tn8, tn9, tn10, tn11, tn12, tn13, tn14, tn15, tn16, tn17, tn18, tn19, tn20, tn21, tn22, tn23, tn24, tn25, tn26, tn27, tn28, tn29, tn30, tn31, tn32, tn33, tn34, tn35, tn36, tn37, tn38, tn39, tn40, tn41, tn42, tn43, tn44, tn45, tn46, tn47, tn48, tn49, tn50, tn51, tn52, tn53, tn54, tn55, tn56, tn57, tn58, tn59, tn60, lH_eq, true_and, and_true, mdq_0 HC.1]
  refine m_isHill (by omega) m HC.1 ?_
  simp only [rI_some, bI0, mdq_0 HC.1, true_and, e0]
  refine ⟨fun z => kk0 (by unfold aLook; rw [if_neg (fun y => z y.1)]), fun z => ?_⟩
  refine m_in32 (by omega) n 0 60 rfl rfl rfl ?_
  simp only [rI_some, bI0, mdq_0 HC.1, true_and]
  refine ⟨fun y => kk0 (by unfold aLook; rw [if_neg (fun x => y x.2.1)]), fun y => ?_⟩
  refine m_in32 (by omega) w 0 1 rfl rfl rfl ?_
  simp only [rI_some, bI0, mdq_0 HC.1, true_and]
  refine ⟨fun x => ?_, fun x => kk0 (by unfold aLook; rw [if_neg (fun v => x v.2.2)])⟩
  have z := Decidable.not_not.mp z
  have y := Decidable.not_not.mp y
  have x := Decidable.not_not.mp x
  unfold aLook at kk
  rw [if_pos ⟨z, y, x⟩] at kk
  have hok := HQ.of_h z
  obtain ⟨n0, hn0, rfl⟩ := rg_of (n := 60) rfl (by decide) y
  rw [nI_clamp (by omega)] at kk
  refine QK.keep (by omega) HQ (fun h1 S1 m1 H1 => ?_)
  rw [rV_none]
  have := lo40 (d := e) (h0 := h) (by omega) m nr nw n0 A M R cls ns w hn0 hok.1 HQ L0 rfl rfl kk (cls.length + 1) 0 h1 (by omega) S1 (fun j hj => by rw [m1]; exact H5 j hj) (fun k hk => absurd hk (Nat.not_lt_zero k))
  rw [cI_0] at this
  exact this

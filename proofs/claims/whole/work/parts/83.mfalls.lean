/-! drawn falls, reference -/
theorem qc_draw {h : AH} {m nr nw : Nat} {A N : PC} {R : Option (List (List (Nat × Nat) × List (Nat × Nat)))} {od : Nat → Option Int32} {v : Int32} (H : QC h m nr nw A N R od) : QC (sI h (m + 1) 5 v) m nr nw A N R od := by
  obtain ⟨H0, ⟨a1, a2, a3, a4, a5⟩, H2, H3, H4⟩ := H
  have g : ∀ c, c ≠ m + 1 → ∀ j, hI (sI h (m + 1) 5 v) c j = hI h c j := fun c hc j => by rw [hI_sI, if_neg hc]
  have g1 : ∀ j, j ≠ 5 → hI (sI h (m + 1) 5 v) (m + 1) j = hI h (m + 1) j := fun j hj => by rw [hI_sI, if_pos rfl, if_neg hj]
  have eA : rA (sI h (m + 1) 5 v) m = rA h m := by
    funext k j
    unfold rA
    split
    · exact g1 _ (by decide)
    all_goals exact g _ (by omega) _
  have eM : rM (sI h (m + 1) 5 v) m = rM h m := by
    funext k j
    unfold rM
    split
    · exact g1 _ (by decide)
    all_goals exact g _ (by omega) _
  exact ⟨H0, ⟨by rw [g1 _ (by decide)]; exact a1, by rw [g1 _ (by decide)]; exact a2, by rw [eA]; exact a3, by rw [eA]; exact a4, by rw [eA]; exact a5⟩, by rw [eM]; exact H2, H3.cg (fun b h1 h2 => g b (by omega)) (g1 6 (by decide)), fun j hj => by rw [g _ (by omega)]; exact H4 j hj⟩
theorem m_draws {d : Nat} {h : AH} {Q : Option Value → AH → Prop} {dr : Nat → Nat} (hdr : DrOk dr) (hd : 5 ≤ d) (m x q : Nat) (hx : x < 2 ^ 31) (hq : 0 < q) (hq2 : q < 2 ^ 31) (H : ModAt h m) (h5 : hI h (m + 1) 5 = nI x) (k : Q (some (.int (nI (dr x / 65536 % q)))) (sI h (m + 1) 5 (nI (dr x)))) : Calls d nX12_draws [.ref m, .int (nI q)] h (hN h) (hU h) Q := by
  obtain ⟨e, rfl⟩ : ∃ e, d = e + 1 := ⟨d - 1, by omega⟩
  obtain ⟨hl, -, hda⟩ := hdr x hx
  refine wX12_draws (by omega) m (nI q) ?_
  have e1 : nI (dr x) / 65536 = nI (dr x / 65536) := pk_div (d := 65536) (by omega) (by decide) (by decide)
  have e2 : nI (dr x / 65536) - nI (dr x / 65536) / nI q * nI q = nI (dr x / 65536 % q) := pk_rem (by omega) hq hq2
  simp only [rt_i, rt_b0, rt_b1, rt_v, rt_l, rt_o, rt_a, rV_none, rI_some, rL_some, rR_some, rT_some, rt_bI, hIf_sL, hIf_sR, hS_sI, hS_sL, hS_sR, hS_cpI, hR_sI, hR_sL, hR_cpI, hL_sI, hL_sR, hL_cpI, hI_sL, hI_sR, hN_sI, hN_sL, hN_sR, hN_cpI, hU_sI, hU_sL, hU_sR, hU_cpI, tn0, tn1, tn2, tn3, tn4, tn5, tn6, tn7, tn8, tn9, tn10, tn11, tn12, tn13, tn14, tn15, tn16, tn17, tn18, tn19, tn20, tn21, tn22, tn23, tn24, tn25, tn26, tn27, tn28, tn29, tn30, tn31, tn32, tn33, tn34, tn35, tn36, tn37, tn38, tn39, tn40, tn41, tn42, tn43, tn44, tn45, tn46, tn47, tn48, tn49, tn50, tn51, tn52, tn53, tn54, tn55, tn56, tn57, tn58, tn59, tn60, lH_eq, true_and, and_true, mdq_0 H, mdq_1 H, mds_1 H, vl7_0, vl7_1, vl7_2, vl7_3, vl7_4, vl7_5, vl7_6, h5, hda, hI_sI, if_true, e1, e2]
  exact ⟨by decide, by decide, nI_ne0 hq hq2, k⟩
theorem mgp_loop {d E1 E2 : Nat} {Q : Option Value → AH → Prop} {h : AH} (hd : 4 ≤ d) (m nr : Nat) (N : PC) (H : ModAt h m) (hn : hI h (m + 1) 1 = nI nr) (hr : nr ≤ 5) (hf : ∀ j, j < nr → hI h (m + 2) j = N 2 j) (e1 : hN h = E1) (e2 : hU h = E2) (k : Q (some (.int (gpF N nr))) h) : ∀ n i : Nat, i + n = nr → Reach d nX12_greatestPurse (4, [.ref m, .int (gpF N i), .int (nI i)], []) h E1 E2 Q
  | 0, i, hi => by
    have : i = nr := by omega
    subst this
    refine wX12_greatestPurse_4 hd m _ (nI i) ?_
    simp only [rt_i, rt_b0, rt_b1, rt_v, rt_l, rt_o, rt_a, rV_none, rI_some, rL_some, rR_some, rT_some, rt_bI, hIf_sL, hIf_sR, hS_sI, hS_sL, hS_sR, hS_cpI, hR_sI, hR_sL, hR_cpI, hL_sI, hL_sR, hL_cpI, hI_sL, hI_sR, hN_sI, hN_sL, hN_sR, hN_cpI, hU_sI, hU_sL, hU_sR, hU_cpI, tn0, tn1, tn2, tn3, tn4, tn5, tn6, tn7, tn8, tn9, tn10, tn11, tn12, tn13, tn14, tn15, tn16, tn17, tn18, tn19, tn20, tn21, tn22, tn23, tn24, tn25, tn26, tn27, tn28, tn29, tn30, tn31, tn32, tn33, tn34, tn35, tn36, tn37, tn38, tn39, tn40, tn41, tn42, tn43, tn44, tn45, tn46, tn47, tn48, tn49, tn50, tn51, tn52, tn53, tn54, tn55, tn56, tn57, tn58, tn59, tn60, lH_eq, true_and, and_true, mdq_0 H, mdq_1 H, mds_1 H, mdq_2 H, mds_2 H, vl7_0, vl7_1, vl7_2, vl7_3, vl7_4, vl7_5, vl7_6, hn, nI_le_iff (show i < 2 ^ 31 by omega) (show i < 2 ^ 31 by omega)]
    exact ⟨fun _ => ⟨e1, e2, k⟩, fun z => absurd (Nat.le_refl i) z⟩
  | n + 1, i, hi => by
    have ih := mgp_loop hd m nr N H hn hr hf e1 e2 k n (i + 1) (by omega)
    refine wX12_greatestPurse_4 hd m _ (nI i) ?_
    simp only [rt_i, rt_b0, rt_b1, rt_v, rt_l, rt_o, rt_a, rV_none, rI_some, rL_some, rR_some, rT_some, rt_bI, hIf_sL, hIf_sR, hS_sI, hS_sL, hS_sR, hS_cpI, hR_sI, hR_sL, hR_cpI, hL_sI, hL_sR, hL_cpI, hI_sL, hI_sR, hN_sI, hN_sL, hN_sR, hN_cpI, hU_sI, hU_sL, hU_sR, hU_cpI, tn0, tn1, tn2, tn3, tn4, tn5, tn6, tn7, tn8, tn9, tn10, tn11, tn12, tn13, tn14, tn15, tn16, tn17, tn18, tn19, tn20, tn21, tn22, tn23, tn24, tn25, tn26, tn27, tn28, tn29, tn30, tn31, tn32, tn33, tn34, tn35, tn36, tn37, tn38, tn39, tn40, tn41, tn42, tn43, tn44, tn45, tn46, tn47, tn48, tn49, tn50, tn51, tn52, tn53, tn54, tn55, tn56, tn57, tn58, tn59, tn60, lH_eq, true_and, and_true, mdq_0 H, mdq_1 H, mds_1 H, mdq_2 H, mds_2 H, vl7_0, vl7_1, vl7_2, vl7_3, vl7_4, vl7_5, vl7_6, hn, nI_le_iff (show nr < 2 ^ 31 by omega) (show i < 2 ^ 31 by omega), vp_in_nI (show i < 5 by omega) (show 5 < 2 ^ 31 by omega), nI_clamp (show i < 2 ^ 31 by omega), hf i (by omega), nI_1]
    simp only [gpF] at ih
    refine ⟨fun z => absurd z (by omega), fun _ => ⟨fun z => ?_, fun z => ?_⟩⟩
    · rwa [if_neg (Int32.not_lt.mpr z)] at ih
    · rwa [if_pos (i32_lt_of z)] at ih
theorem m_greatestPurse {d : Nat} {h : AH} {Q : Option Value → AH → Prop} (hd : 5 ≤ d) (m nr : Nat) (N : PC) (H : ModAt h m) (hn : hI h (m + 1) 1 = nI nr) (hr : nr ≤ 5) (hf : ∀ j, j < nr → hI h (m + 2) j = N 2 j) (k : Q (some (.int (gpF N nr))) h) : Calls d nX12_greatestPurse [.ref m] h (hN h) (hU h) Q := by
  obtain ⟨e, rfl⟩ : ∃ e, d = e + 1 := ⟨d - 1, by omega⟩
  exact wX12_greatestPurse (by omega) m (mgp_loop (by omega) m nr N H hn hr hf rfl rfl k nr 0 (by omega))
theorem gaF_eq (N M : PC) : ∀ n, suF (N 3) n - suF (M 3) n = gaF N M n
  | 0 => by simp [suF, gaF]
  | n + 1 => by
    have := gaF_eq N M n
    simp only [suF, gaF, ← this]
    grind
theorem dfF_ok {dr : Nat → Nat} {nr nw p : Nat} {D : Int} {s : Nat × PC} (h : momOk D nr nw s.2) : momOk D nr nw (dfF dr nr p s).2 := by
  unfold dfF
  split
  · exact setP_ok h (by decide)
  · exact h
theorem fa101 {d E1 E2 : Nat} {Q : Option Value → AH → Prop} {dr : Nat → Nat} {h0 : AH} (hdr : DrOk dr) (hd : 11 ≤ d) (m nr nw p days : Nat) (A : PC) (R : Option (List (List (Nat × Nat) × List (Nat × Nat)))) (v1 v4 v5 v7 v8 v9 : Int32) (hp : p ≤ 100) (hdays : days ≤ 60) (hA : hilOk nr nw A) (f32 : Nat → Int32) : ∀ (l i : Nat) (s : Nat × PC) (h : AH) (D : Int), i + l = days → D + l ≤ 50000 → momOk D nr nw s.2 → s.1 < 2 ^ 31 → Sv h0 h m → QC h m nr nw A s.2 R (fun _ => none) → hI h (m + 1) 5 = nI s.1 → (∀ j, hI h (m + 32) j = f32 j) → (∀ h', Sv h0 h' m → QC h' m nr nw A (fdF dr R A nr nw p l s).2 R (fun _ => none) → hI h' (m + 1) 5 = nI (fdF dr R A nr nw p l s).1 → (∀ j, hI h' (m + 32) j = f32 j) → Reach d nX12_falls (101, [.ref m, .int v1, .int (nI days), .int (nI p), .int v4, .int v5, .float 0, .int v7, .int v8, .int v9, .int (nI days)], []) h' E1 E2 Q) → Reach d nX12_falls (101, [.ref m, .int v1, .int (nI days), .int (nI p), .int v4, .int v5, .float 0, .int v7, .int v8, .int v9, .int (nI i)], []) h E1 E2 Q
  | 0, i, s, h, D, hi, hD, hM, hs, S, HQ, h5, h32, k => by
    have : i = days := by omega
    subst this
    exact k h S HQ h5 h32
  | l + 1, i, s, h, D, hi, hD, hM, hs, S, HQ, h5, h32, k => by
    have hr5 := hA.1
    have HM := HQ.1
    have l1 := (hdr _ hs).1
    have hlt := dfF_lt hdr nr p s hs
    -- the day itself, after the draw
    have day : ∀ h1 : AH, Sv h0 h1 m → QC h1 m nr nw A (dfF dr nr p s).2 R (fun _ => none) → hI h1 (m + 1) 5 = nI (dfF dr nr p s).1 → (∀ j, hI h1 (m + 32) j = f32 j) → Calls d 198 [.ref m] h1 (hN h1) (hU h1) (fun r15 h14 => rI r15 fun x16 => Reach d 239 (101, [.ref m, .int v1, .int (nI days), .int (nI p), .int v4, .int v5, .float 0, .int v7, .int v8, .int v9, .int (nI (i + 1))], []) h14 E1 E2 Q) := fun h1 S1 Q1 d1 m1 => by
      refine qc_goes (h := h1) (by omega) m nr nw A _ R _ Q1 hA (dfF_ok hM) (fun h3 f3 q3 Q3 => ?_)
      rw [rI_some]
      exact fa101 hdr hd m nr nw p days A R v1 v4 v5 v7 v8 v9 hp hdays hA f32 l (i + 1) ((dfF dr nr p s).1, paF R A nr nw (fun _ => none) (dfF dr nr p s).2) h3 (D + 1) (by omega) (by omega) (paF_ok (by omega) hA (dfF_ok hM)) hlt (S1.wr f3 (fun c z => gs_ok z)) Q3 (by rw [q3 5 (by decide)]; exact d1) (fun j => by rw [f3.2.2.2.2.1 (m + 32) (by unfold GS; omega)]; exact m1 j) k
    refine wX12_falls_101 (by omega) m v1 (nI days) (nI p) v4 v5 v7 v8 v9 (nI i) ?_
    simp only [rt_i, rt_b0, rt_b1, rt_v, rt_l, rt_o, rt_a, rV_none, rI_some, rL_some, rR_some, rT_some, rt_bI, hIf_sL, hIf_sR, hS_sI, hS_sL, hS_sR, hS_cpI, hR_sI, hR_sL, hR_cpI, hL_sI, hL_sR, hL_cpI, hI_sL, hI_sR, hN_sI, hN_sL, hN_sR, hN_cpI, hU_sI, hU_sL, hU_sR, hU_cpI, tn0, tn1, tn2, tn3, tn4, tn5, tn6, tn7, tn8, tn9, tn10, tn11, tn12, tn13, tn14, tn15, tn16, tn17, tn18, tn19, tn20, tn21, tn22, tn23, tn24, tn25, tn26, tn27, tn28, tn29, tn30, tn31, tn32, tn33, tn34, tn35, tn36, tn37, tn38, tn39, tn40, tn41, tn42, tn43, tn44, tn45, tn46, tn47, tn48, tn49, tn50, tn51, tn52, tn53, tn54, tn55, tn56, tn57, tn58, tn59, tn60, lH_eq, true_and, and_true, mdq_0 HM, nI_le_iff (show days < 2 ^ 31 by omega) (show i < 2 ^ 31 by omega)]
    refine ⟨fun z => absurd z (by omega), fun _ => ?_⟩
    rw [show (100 : Int32) = nI 100 from rfl]
    refine m_draws hdr (by omega) m s.1 100 hs (by decide) (by decide) HM h5 ?_
    have hm100 := Nat.mod_lt (dr s.1 / 65536) (show 0 < 100 by decide)
    have f1 : Fr' h (sI h (m + 1) 5 (nI (dr s.1))) (fun c => c = m + 1) := Fr'.sI rfl
    have Q1 := qc_draw (v := nI (dr s.1)) HQ
    have S1 := S.wr f1 (fun c z => by omega)
    have HM1 := Q1.1
    have d1 : hI (sI h (m + 1) 5 (nI (dr s.1))) (m + 1) 5 = nI (dr s.1) := by rw [hI_sI, if_pos rfl, if_pos rfl]
    have m1 : ∀ j, hI (sI h (m + 1) 5 (nI (dr s.1))) (m + 32) j = f32 j := fun j => by rw [f1.2.2.2.2.1 (m + 32) (by omega)]; exact h32 j
    have n1 : hI (sI h (m + 1) 5 (nI (dr s.1))) (m + 1) 1 = nI nr := Q1.2.1.1
    have c0 : (nI nr ≤ 0) = (nr ≤ 0) := nI_le_iff (b := 0) (by omega) (by decide)
    generalize hg : sI h (m + 1) 5 (nI (dr s.1)) = g1 at *
    simp only [rI_some, rt_i, rt_b0, rt_b1, rt_v, rt_l, rt_o, rt_a, rV_none, rI_some, rL_some, rR_some, rT_some, rt_bI, hIf_sL, hIf_sR, hS_sI, hS_sL, hS_sR, hS_cpI, hR_sI, hR_sL, hR_cpI, hL_sI, hL_sR, hL_cpI, hI_sL, hI_sR, hN_sI, hN_sL, hN_sR, hN_cpI, hU_sI, hU_sL, hU_sR, hU_cpI, tn0, tn1, tn2, tn3, tn4, tn5, tn6, tn7, tn8, tn9, tn10, tn11, tn12, tn13, tn14, tn15, tn16, tn17, tn18, tn19, tn20, tn21, tn22, tn23, tn24, tn25, tn26, tn27, tn28, tn29, tn30, tn31, tn32, tn33, tn34, tn35, tn36, tn37, tn38, tn39, tn40, tn41, tn42, tn43, tn44, tn45, tn46, tn47, tn48, tn49, tn50, tn51, tn52, tn53, tn54, tn55, tn56, tn57, tn58, tn59, tn60, lH_eq, true_and, and_true, mdq_0 HM1, mdq_1 HM1, mds_1 HM1, mdq_2 HM1, mds_2 HM1, vl7_0, vl7_1, vl7_2, vl7_3, vl7_4, vl7_5, vl7_6, n1, c0, nI_le_iff (show p < 2 ^ 31 by omega) (show dr s.1 / 65536 % 100 < 2 ^ 31 by omega), nI_1]
    refine ⟨fun z => ?_, fun z => ⟨fun y => ?_, fun y => ?_⟩⟩
    · have e : dfF dr nr p s = (dr s.1, s.2) := by simp only [dfF]; rw [if_neg (by omega)]
      rw [e] at day
      exact day g1 S1 Q1 d1 m1
    · have e : dfF dr nr p s = (dr s.1, s.2) := by simp only [dfF]; rw [if_neg (by omega)]
      rw [e] at day
      exact day g1 S1 Q1 d1 m1
    · have e : dfF dr nr p s = (dr (dr s.1), setP s.2 (dr (dr s.1) / 65536 % nr) 0) := by simp only [dfF]; rw [if_pos (by omega)]
      rw [e] at day
      refine m_draws hdr (h := g1) (by omega) m (dr s.1) nr l1 (by omega) (by omega) HM1 d1 ?_
      have hm := Nat.mod_lt (dr (dr s.1) / 65536) (show 0 < nr by omega)
      have f2 : Fr' g1 (sI (sI g1 (m + 1) 5 (nI (dr (dr s.1)))) (m + 2) (dr (dr s.1) / 65536 % nr) 0) (fun c => c = m + 1 ∨ c = m + 2) := (Fr'.sI (Or.inl rfl)).trans (Fr'.sI (Or.inr rfl))
      have HM2 := HM1.fr f2
      simp only [rI_some, rt_i, rt_b0, rt_b1, rt_v, rt_l, rt_o, rt_a, rV_none, rI_some, rL_some, rR_some, rT_some, rt_bI, hIf_sL, hIf_sR, hS_sI, hS_sL, hS_sR, hS_cpI, hR_sI, hR_sL, hR_cpI, hL_sI, hL_sR, hL_cpI, hI_sL, hI_sR, hN_sI, hN_sL, hN_sR, hN_cpI, hU_sI, hU_sL, hU_sR, hU_cpI, tn0, tn1, tn2, tn3, tn4, tn5, tn6, tn7, tn8, tn9, tn10, tn11, tn12, tn13, tn14, tn15, tn16, tn17, tn18, tn19, tn20, tn21, tn22, tn23, tn24, tn25, tn26, tn27, tn28, tn29, tn30, tn31, tn32, tn33, tn34, tn35, tn36, tn37, tn38, tn39, tn40, tn41, tn42, tn43, tn44, tn45, tn46, tn47, tn48, tn49, tn50, tn51, tn52, tn53, tn54, tn55, tn56, tn57, tn58, tn59, tn60, lH_eq, true_and, and_true, mdq_0 HM1, mdq_1 HM1, mds_1 HM1, mdq_2 HM1, mds_2 HM1, vp_in_nI (show dr (dr s.1) / 65536 % nr < 5 by omega) (show 5 < 2 ^ 31 by omega), nI_clamp (show dr (dr s.1) / 65536 % nr < 2 ^ 31 by omega)]
      exact day _ (S1.wr f2 (fun c z => by omega)) (qc_setP (qc_draw Q1)) (by rw [hI_sI, if_neg (by omega), hI_sI, if_pos rfl, if_pos rfl]) (fun j => by rw [f2.2.2.2.2.1 (m + 32) (by omega)]; exact m1 j)
theorem fa84 {d E1 E2 : Nat} {Q : Option Value → AH → Prop} {dr : Nat → Nat} {h0 : AH} (hdr : DrOk dr) (hd : 11 ≤ d) (m nr nw p days times x : Nat) (A M : PC) (R : Option (List (List (Nat × Nat) × List (Nat × Nat)))) (wh : Int32) (hp : p ≤ 100) (hdays : days ≤ 60) (ht : times ≤ 10) (hA : hilOk nr nw A) (hM : momOk 999 nr nw M) (H0 : QK h0 m nr nw A M R) (hx0 : hI h0 (m + 1) 5 = nI x) (e1 : hN h0 = E1) (e2 : hU h0 = E2) : ∀ (l i : Nat) (s : Nat × Int32 × Int32) (h : AH), i + l = times → s.1 < 2 ^ 31 → Rs h0 h m → M5 h m → (∀ h', Rs h0 h' m → M5 h' m → Q (some (.int (if wh = 0 then (fsF dr R A nr nw p days M l s).2.1 else (fsF dr R A nr nw p days M l s).2.2))) h') → Reach d nX12_falls (84, [.ref m, .int (nI times), .int (nI days), .int (nI p), .int wh, .int (nI x), .int (nI s.1), .int (suF (M 3) nr), .int (if wh = 0 then s.2.1 else s.2.2), .int (nI i), .float 0], []) h E1 E2 Q
  | 0, i, s, h, hi, hs, S, h5, k => by
    have : i = times := by omega
    subst this
    have HM := H0.1.1.fr S.1.1
    refine wX12_falls_84 (by omega) m (nI i) (nI days) (nI p) wh (nI x) (nI s.1) _ _ (nI i) ?_
    simp only [rt_i, rt_b0, rt_b1, rt_v, rt_l, rt_o, rt_a, rV_none, rI_some, rL_some, rR_some, rT_some, rt_bI, hIf_sL, hIf_sR, hS_sI, hS_sL, hS_sR, hS_cpI, hR_sI, hR_sL, hR_cpI, hL_sI, hL_sR, hL_cpI, hI_sL, hI_sR, hN_sI, hN_sL, hN_sR, hN_cpI, hU_sI, hU_sL, hU_sR, hU_cpI, tn0, tn1, tn2, tn3, tn4, tn5, tn6, tn7, tn8, tn9, tn10, tn11, tn12, tn13, tn14, tn15, tn16, tn17, tn18, tn19, tn20, tn21, tn22, tn23, tn24, tn25, tn26, tn27, tn28, tn29, tn30, tn31, tn32, tn33, tn34, tn35, tn36, tn37, tn38, tn39, tn40, tn41, tn42, tn43, tn44, tn45, tn46, tn47, tn48, tn49, tn50, tn51, tn52, tn53, tn54, tn55, tn56, tn57, tn58, tn59, tn60, lH_eq, true_and, and_true, mdq_0 HM, mdq_1 HM, mds_1 HM, vl7_0, vl7_1, vl7_2, vl7_3, vl7_4, vl7_5, vl7_6, nI_le_iff (show i < 2 ^ 31 by omega) (show i < 2 ^ 31 by omega)]
    have f1 : Fr' h (sI h (m + 1) 5 (nI x)) (fun c => c = m + 1) := Fr'.sI rfl
    have S1 := S.1.wr f1 (fun c z => by omega)
    have e3 := S1.1
    have kk := k (sI h (m + 1) 5 (nI x)) ⟨S1, fun r hr j hj => by
      rw [hI_sI]
      by_cases c : m + r = m + 1
      · have : r = 1 := by omega
        subst this
        rw [if_pos rfl]
        by_cases c2 : j = 5
        · rw [if_pos c2, c2, hx0]
        · rw [if_neg c2]; exact S.2 1 hr j hj
      · rw [if_neg c]; exact S.2 r hr j hj⟩ (fun j hj => by rw [f1.2.2.2.2.1 (m + 32) (by omega)]; exact h5 j hj)
    exact ⟨fun _ => ⟨e3.2.2.1.trans e1, e3.2.2.2.1.trans e2, kk⟩, fun z => absurd (Nat.le_refl i) z⟩
  | l + 1, i, s, h, hi, hs, S, h5, k => by
    have HQ := H0.rs S h5
    have HM := HQ.1.1
    have hr5 := hA.1
    refine wX12_falls_84 (by omega) m (nI times) (nI days) (nI p) wh (nI x) (nI s.1) _ _ (nI i) ?_
    simp only [rt_i, rt_b0, rt_b1, rt_v, rt_l, rt_o, rt_a, rV_none, rI_some, rL_some, rR_some, rT_some, rt_bI, hIf_sL, hIf_sR, hS_sI, hS_sL, hS_sR, hS_cpI, hR_sI, hR_sL, hR_cpI, hL_sI, hL_sR, hL_cpI, hI_sL, hI_sR, hN_sI, hN_sL, hN_sR, hN_cpI, hU_sI, hU_sL, hU_sR, hU_cpI, tn0, tn1, tn2, tn3, tn4, tn5, tn6, tn7, tn8, tn9, tn10, tn11, tn12, tn13, tn14, tn15, tn16, tn17, tn18, tn19, tn20, tn21, tn22, tn23, tn24, tn25, tn26, tn27, tn28, tn29, tn30, tn31, tn32, tn33, tn34, tn35, tn36, tn37, tn38, tn39, tn40, tn41, tn42, tn43, tn44, tn45, tn46, tn47, tn48, tn49, tn50, tn51, tn52, tn53, tn54, tn55, tn56, tn57, tn58, tn59, tn60, lH_eq, true_and, and_true, mdq_0 HM, mdq_1 HM, mds_1 HM, vl7_0, vl7_1, vl7_2, vl7_3, vl7_4, vl7_5, vl7_6, nI_le_iff (show times < 2 ^ 31 by omega) (show i < 2 ^ 31 by omega)]
    refine ⟨fun z => absurd z (by omega), fun _ => ?_⟩
    have f1 : Fr' h (sI h (m + 1) 5 (nI s.1)) (fun c => c = m + 1) := Fr'.sI rfl
    refine fa101 (h0 := h0) hdr hd m nr nw p days A R (nI times) wh (nI x) _ _ (nI i) hp hdays hA (fun j => hI h (m + 32) j) days 0 (s.1, M) _ 999 (by omega) (by omega) hM hs (S.1.wr f1 (fun c z => by omega)) (qc_draw HQ.1) (by rw [hI_sI, if_pos rfl, if_pos rfl]) (fun j => f1.2.2.2.2.1 (m + 32) (by omega) j) (fun h2 S2 Q2 d2 m2 => ?_)
    have HM2 := Q2.1
    have ih := fun h' S' h5' => fa84 hdr hd m nr nw p days times x A M R wh hp hdays ht hA hM H0 hx0 e1 e2 l (i + 1) ((fdF dr R A nr nw p days (s.1, M)).1, s.2.1 + gaF (fdF dr R A nr nw p days (s.1, M)).2 M nr, s.2.2 + gpF (fdF dr R A nr nw p days (s.1, M)).2 nr) h' (by omega) (fdF_lt hdr R A nr nw p days _ hs) S' h5' k
    have fin : Calls d 212 [.ref m] h2 (hN h2) (hU h2) (fun r5 h4 => rV r5 (Reach d 239 (84, [.ref m, .int (nI times), .int (nI days), .int (nI p), .int wh, .int (nI x), .int (nI (fdF dr R A nr nw p days (s.1, M)).1), .int (suF (M 3) nr), .int (if wh = 0 then s.2.1 + gaF (fdF dr R A nr nw p days (s.1, M)).2 M nr else s.2.2 + gpF (fdF dr R A nr nw p days (s.1, M)).2 nr), .int (nI (i + 1)), .float 0], []) h4 E1 E2 Q)) := by
      refine sv_lays (h0 := h0) (h := h2) (by omega) m H0.1.1 S2 (fun h3 S3 f3 m3 => ?_)
      rw [rV_none]
      exact ih h3 S3 (fun j hj => by rw [m3, m2]; exact h5 j hj)
    refine wX12_falls_101 (by omega) m (nI times) (nI days) (nI p) wh (nI x) _ _ (nI i) (nI days) ?_
    simp only [rt_i, rt_b0, rt_b1, rt_v, rt_l, rt_o, rt_a, rV_none, rI_some, rL_some, rR_some, rT_some, rt_bI, hIf_sL, hIf_sR, hS_sI, hS_sL, hS_sR, hS_cpI, hR_sI, hR_sL, hR_cpI, hL_sI, hL_sR, hL_cpI, hI_sL, hI_sR, hN_sI, hN_sL, hN_sR, hN_cpI, hU_sI, hU_sL, hU_sR, hU_cpI, tn0, tn1, tn2, tn3, tn4, tn5, tn6, tn7, tn8, tn9, tn10, tn11, tn12, tn13, tn14, tn15, tn16, tn17, tn18, tn19, tn20, tn21, tn22, tn23, tn24, tn25, tn26, tn27, tn28, tn29, tn30, tn31, tn32, tn33, tn34, tn35, tn36, tn37, tn38, tn39, tn40, tn41, tn42, tn43, tn44, tn45, tn46, tn47, tn48, tn49, tn50, tn51, tn52, tn53, tn54, tn55, tn56, tn57, tn58, tn59, tn60, lH_eq, true_and, and_true, mdq_0 HM2, mdq_1 HM2, mds_1 HM2, vl7_0, vl7_1, vl7_2, vl7_3, vl7_4, vl7_5, vl7_6, nI_le_iff (show days < 2 ^ 31 by omega) (show days < 2 ^ 31 by omega)]
    refine ⟨fun _ => ⟨fun z => ?_, fun z => ?_⟩, fun z => absurd (Nat.le_refl _) z⟩
    · rw [if_neg z] at fin ⊢
      refine m_greatestPurse (by omega) m nr (fdF dr R A nr nw p days (s.1, M)).2 HM2 Q2.2.1.1 hr5 (fun j hj => (Q2.2.2.1.2.1 j hj).2.1) ?_
      simp only [rI_some, rt_i, rt_b0, rt_b1, rt_v, rt_l, rt_o, rt_a, rV_none, rI_some, rL_some, rR_some, rT_some, rt_bI, hIf_sL, hIf_sR, hS_sI, hS_sL, hS_sR, hS_cpI, hR_sI, hR_sL, hR_cpI, hL_sI, hL_sR, hL_cpI, hI_sL, hI_sR, hN_sI, hN_sL, hN_sR, hN_cpI, hU_sI, hU_sL, hU_sR, hU_cpI, tn0, tn1, tn2, tn3, tn4, tn5, tn6, tn7, tn8, tn9, tn10, tn11, tn12, tn13, tn14, tn15, tn16, tn17, tn18, tn19, tn20, tn21, tn22, tn23, tn24, tn25, tn26, tn27, tn28, tn29, tn30, tn31, tn32, tn33, tn34, tn35, tn36, tn37, tn38, tn39, tn40, tn41, tn42, tn43, tn44, tn45, tn46, tn47, tn48, tn49, tn50, tn51, tn52, tn53, tn54, tn55, tn56, tn57, tn58, tn59, tn60, lH_eq, true_and, and_true, mdq_0 HM2, mdq_1 HM2, mds_1 HM2, vl7_0, vl7_1, vl7_2, vl7_3, vl7_4, vl7_5, vl7_6, d2, nI_1]
      exact fin
    · rw [if_pos z] at fin ⊢
      refine m_allWealth (by omega) m nr HM2 Q2.2.1.1 hr5 ?_
      rw [suF_cg (f := hI h2 (m + 3)) (g := (fdF dr R A nr nw p days (s.1, M)).2 3) (fun j hj => (Q2.2.2.1.2.1 j hj).2.2)]
      simp only [rI_some, rt_i, rt_b0, rt_b1, rt_v, rt_l, rt_o, rt_a, rV_none, rI_some, rL_some, rR_some, rT_some, rt_bI, hIf_sL, hIf_sR, hS_sI, hS_sL, hS_sR, hS_cpI, hR_sI, hR_sL, hR_cpI, hL_sI, hL_sR, hL_cpI, hI_sL, hI_sR, hN_sI, hN_sL, hN_sR, hN_cpI, hU_sI, hU_sL, hU_sR, hU_cpI, tn0, tn1, tn2, tn3, tn4, tn5, tn6, tn7, tn8, tn9, tn10, tn11, tn12, tn13, tn14, tn15, tn16, tn17, tn18, tn19, tn20, tn21, tn22, tn23, tn24, tn25, tn26, tn27, tn28, tn29, tn30, tn31, tn32, tn33, tn34, tn35, tn36, tn37, tn38, tn39, tn40, tn41, tn42, tn43, tn44, tn45, tn46, tn47, tn48, tn49, tn50, tn51, tn52, tn53, tn54, tn55, tn56, tn57, tn58, tn59, tn60, lH_eq, true_and, and_true, mdq_0 HM2, mdq_1 HM2, mds_1 HM2, vl7_0, vl7_1, vl7_2, vl7_3, vl7_4, vl7_5, vl7_6, d2, nI_1, gaF_eq]
      exact fin
noncomputable def aFalls (dr : Nat → Nat) (nr nw : Nat) (A M : PC) (R : Option (List (List (Nat × Nat) × List (Nat × Nat)))) (x : Nat) (a b c w : Int32) : Int32 := if 0 < A 0 0 ∧ (1 ≤ a ∧ a ≤ 10) ∧ (1 ≤ b ∧ b ≤ 60) ∧ (0 ≤ c ∧ c ≤ 100) ∧ (0 ≤ w ∧ w ≤ 1) then (if w = 0 then (fsF dr R A nr nw c.toNatClampNeg b.toNatClampNeg M a.toNatClampNeg (x, 0, 0)).2.1 else (fsF dr R A nr nw c.toNatClampNeg b.toNatClampNeg M a.toNatClampNeg (x, 0, 0)).2.2) else -1
theorem m_falls {d : Nat} {h : AH} {Q : Option Value → AH → Prop} {dr : Nat → Nat} (hdr : DrOk dr) (hd : 13 ≤ d) (m nr nw x : Nat) (A M : PC) (R : Option (List (List (Nat × Nat) × List (Nat × Nat)))) (a b c w : Int32) (hx : x < 2 ^ 31) (H : QK h m nr nw A M R) (hx0 : hI h (m + 1) 5 = nI x) (kk : ∀ h', Rs h h' m → M5 h' m → Q (some (.int (aFalls dr nr nw A M R x a b c w))) h') (kk0 : aFalls dr nr nw A M R x a b c w = -1 → Q (some (.int (-1))) h) : Calls d nX12_falls [.ref m, .int a, .int b, .int c, .int w] h (hN h) (hU h) Q := by
  obtain ⟨e, rfl⟩ : ∃ e, d = e + 1 := ⟨d - 1, by omega⟩
  have HQ := H
  obtain ⟨HC, H5, hr5, hw6, hh⟩ := H
  have e0 : hI h (m + 1) 0 = A 0 0 := HC.2.1.2.2.1.1
  refine wX12_falls (by omega) m a b c w ?_
  simp only [rt_i, rt_b0, rt_b1, rt_v, rt_l, rt_o, rt_a, rV_none, rI_some, rL_some, rR_some, rT_some, rt_bI, hIf_sL, hIf_sR, hS_sI, hS_sL, hS_sR, hS_cpI, hR_sI, hR_sL, hR_cpI, hL_sI, hL_sR, hL_cpI, hI_sL, hI_sR, hN_sI, hN_sL, hN_sR, hN_cpI, hU_sI, hU_sL, hU_sR, hU_cpI, tn0, tn1, tn2, tn3, tn4, tn5, tn6, tn7, tn8, tn9, tn10, tn11, tn12, tn13, tn14, tn15, tn16, tn17, tn18, tn19, tn20, tn21, tn22, tn23, tn24, tn25, tn26, tn27, tn28, tn29, tn30, tn31, tn32, tn33, tn34, tn35, tn36, tn37, tn38, tn39, tn40, tn41, tn42, tn43, tn44, tn45, tn46, tn47, tn48, tn49, tn50, tn51, tn52, tn53, tn54, tn55, tn56, tn57, tn58, tn59, tn60, lH_eq, true_and, and_true, mdq_0 HC.1]
  refine m_isHill (by omega) m HC.1 ?_
  simp only [rI_some, bI0, mdq_0 HC.1, true_and, e0]
  refine ⟨fun z => kk0 (by unfold aFalls; rw [if_neg (fun y => z y.1)]), fun z => ?_⟩
  refine m_in32 (by omega) a 1 10 rfl rfl rfl ?_
  simp only [rI_some, bI0, mdq_0 HC.1, true_and]
  refine ⟨fun y => kk0 (by unfold aFalls; rw [if_neg (fun x => y x.2.1)]), fun y => ?_⟩
  refine m_in32 (by omega) b 1 60 rfl rfl rfl ?_
  simp only [rI_some, bI0, mdq_0 HC.1, true_and]
  refine ⟨fun v => kk0 (by unfold aFalls; rw [if_neg (fun x => v x.2.2.1)]), fun v => ?_⟩
  refine m_in32 (by omega) c 0 100 rfl rfl rfl ?_
  simp only [rI_some, bI0, mdq_0 HC.1, true_and]
  refine ⟨fun u => kk0 (by unfold aFalls; rw [if_neg (fun x => u x.2.2.2.1)]), fun u => ?_⟩
  refine m_in32 (by omega) w 0 1 rfl rfl rfl ?_
  simp only [rI_some, bI0, mdq_0 HC.1, true_and]
  refine ⟨fun t => ?_, fun t => kk0 (by unfold aFalls; rw [if_neg (fun x => t x.2.2.2.2)])⟩
  have z := Decidable.not_not.mp z
  have y := Decidable.not_not.mp y
  have v := Decidable.not_not.mp v
  have u := Decidable.not_not.mp u
  have t := Decidable.not_not.mp t
  unfold aFalls at kk
  rw [if_pos ⟨z, y, v, u, t⟩] at kk
  have hok := HQ.of_h z
  obtain ⟨a, ha1, ha2, rfl⟩ := rg1_of (n := 10) rfl (by decide) y
  obtain ⟨b, hb1, hb2, rfl⟩ := rg1_of (n := 60) rfl (by decide) v
  obtain ⟨c, hc, rfl⟩ := rg_of (n := 100) rfl (by decide) u
  rw [nI_clamp (by omega), nI_clamp (by omega), nI_clamp (by omega)] at kk
  have HM := HC.1
  refine wX12_falls_56 (by omega) m (nI a) (nI b) (nI c) w ?_
  simp only [rt_i, rt_b0, rt_b1, rt_v, rt_l, rt_o, rt_a, rV_none, rI_some, rL_some, rR_some, rT_some, rt_bI, hIf_sL, hIf_sR, hS_sI, hS_sL, hS_sR, hS_cpI, hR_sI, hR_sL, hR_cpI, hL_sI, hL_sR, hL_cpI, hI_sL, hI_sR, hN_sI, hN_sL, hN_sR, hN_cpI, hU_sI, hU_sL, hU_sR, hU_cpI, tn0, tn1, tn2, tn3, tn4, tn5, tn6, tn7, tn8, tn9, tn10, tn11, tn12, tn13, tn14, tn15, tn16, tn17, tn18, tn19, tn20, tn21, tn22, tn23, tn24, tn25, tn26, tn27, tn28, tn29, tn30, tn31, tn32, tn33, tn34, tn35, tn36, tn37, tn38, tn39, tn40, tn41, tn42, tn43, tn44, tn45, tn46, tn47, tn48, tn49, tn50, tn51, tn52, tn53, tn54, tn55, tn56, tn57, tn58, tn59, tn60, lH_eq, true_and, and_true, mdq_0 HM, mdq_1 HM, mds_1 HM, vl7_0, vl7_1, vl7_2, vl7_3, vl7_4, vl7_5, vl7_6, hx0]
  refine m_allWealth (by omega) m nr HM HC.2.1.1 hr5 ?_
  rw [suF_cg (f := hI h (m + 3)) (g := M 3) (fun j hj => (HC.2.2.1.2.1 j hj).2.2), rI_some]
  refine wX12_falls_77 (by omega) m (nI a) (nI b) (nI c) w (nI x) (nI x) _ 0 ?_
  simp only [rt_i, rt_b0, rt_b1, rt_v, rt_l, rt_o, rt_a, rV_none, rI_some, rL_some, rR_some, rT_some, rt_bI, hIf_sL, hIf_sR, hS_sI, hS_sL, hS_sR, hS_cpI, hR_sI, hR_sL, hR_cpI, hL_sI, hL_sR, hL_cpI, hI_sL, hI_sR, hN_sI, hN_sL, hN_sR, hN_cpI, hU_sI, hU_sL, hU_sR, hU_cpI, tn0, tn1, tn2, tn3, tn4, tn5, tn6, tn7, tn8, tn9, tn10, tn11, tn12, tn13, tn14, tn15, tn16, tn17, tn18, tn19, tn20, tn21, tn22, tn23, tn24, tn25, tn26, tn27, tn28, tn29, tn30, tn31, tn32, tn33, tn34, tn35, tn36, tn37, tn38, tn39, tn40, tn41, tn42, tn43, tn44, tn45, tn46, tn47, tn48, tn49, tn50, tn51, tn52, tn53, tn54, tn55, tn56, tn57, tn58, tn59, tn60, lH_eq, true_and, and_true, mdq_0 HM, mdq_1 HM, mds_1 HM]
  refine QK.keep (by omega) HQ (fun h1 S1 m1 H1 => ?_)
  rw [rV_none]
  have := fa84 (d := e) (h0 := h) hdr (by omega) m nr nw c b a x A M R w hc hb2 ha2 hok.1 hok.2 HQ hx0 rfl rfl a 0 (x, 0, 0) h1 (by omega) hx S1 (fun j hj => by rw [m1]; exact H5 j hj) kk
  simp only [ite_self] at this
  exact this

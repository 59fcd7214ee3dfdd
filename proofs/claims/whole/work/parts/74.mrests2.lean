theorem rq2_loop {d E1 E2 : Nat} {Q : Option Value → AH → Prop} {h : AH} (hd : 6 ≤ d) (m nr nw c : Nat) (A M : PC) (R : Option (List (List (Nat × Nat) × List (Nat × Nat)))) (od : Nat → Option Int32) (w1 w2 : Nat → Nat → Int32) (hc : c < 49) (hA : hilOk nr nw A) (H : QC h m nr nw A M R od) (HT : TL h m (m7 A (M 0 0) nw) w1 w2 49) (mi : m7 A (M 0 0) nw (c / 7) = true) (mj : m7 A (M 0 0) nw (c % 7) = true) (e1 : hN h = E1) (e2 : hU h = E2) (kk : Q (some (.int (bI (rsB (m7 A (M 0 0) nw) w1 w2 (c / 7) (c % 7) 7 0 = true)))) h) : ∀ (n k : Nat), k + n = 7 → rsB (m7 A (M 0 0) nw) w1 w2 (c / 7) (c % 7) 7 0 = rsB (m7 A (M 0 0) nw) w1 w2 (c / 7) (c % 7) n k → Reach d nX12_isRest (2, [.ref m, .int (nI c), .int (nI k)], []) h E1 E2 Q
  | 0, k, hk, he => by
    have : k = 7 := by omega
    subst this
    refine wX12_isRest_2 (by omega) m (nI c) (nI 7) ?_
    have h7 : ((7 : Int32) ≤ nI 7) = (7 ≤ 7) := nI_le_iff (a := 7) (b := 7) (by decide) (by decide)
    simp only [rt_i, rt_b0, rt_b1, rt_v, rt_l, rt_o, rt_a, rV_none, rI_some, rL_some, rR_some, rT_some, rt_bI, hIf_sL, hIf_sR, hS_sI, hS_sL, hS_sR, hS_cpI, hR_sI, hR_sL, hR_cpI, hL_sI, hL_sR, hL_cpI, hI_sL, hI_sR, hN_sI, hN_sL, hN_sR, hN_cpI, hU_sI, hU_sL, hU_sR, hU_cpI, tn0, tn1, tn2, tn3, tn4, tn5, tn6, tn7, tn8, tn9, tn10, tn11, tn12, tn13, tn14, tn15, tn16, tn17, tn18, tn19, tn20, tn21, tn22, tn23, tn24, tn25, tn26, tn27, tn28, tn29, tn30, tn31, tn32, tn33, tn34, tn35, tn36, tn37, tn38, tn39, tn40, tn41, tn42, tn43, tn44, tn45, tn46, tn47, tn48, tn49, tn50, tn51, tn52, tn53, tn54, tn55, tn56, tn57, tn58, tn59, tn60, lH_eq, true_and, and_true, h7]
    refine ⟨fun _ => ?_, fun z => absurd (Nat.le_refl 7) z⟩
    rw [he, bI_t (show rsB _ _ _ _ _ 0 7 = true from rfl)] at kk
    exact ⟨e1, e2, kk⟩
  | n + 1, k, hk, he => by
    have HM := H.1
    have ih := rq2_loop hd m nr nw c A M R od w1 w2 hc hA H HT mi mj e1 e2 kk n (k + 1) (by omega)
    have hml := Nat.mod_lt c (show 0 < 7 by decide)
    have h7 : ((7 : Int32) ≤ nI k) = (7 ≤ k) := nI_le_iff (a := 7) (b := k) (by decide) (by omega)
    have er : nI c - nI c / 7 * 7 = nI (c % 7) := pk_rem (a := c) (d := 7) (by omega) (by decide) (by decide)
    have e7 : 7 * nI k = nI (7 * k) := pk_mul 7 k
    have es : nI c - nI (c % 7) = nI (c - c % 7) := pk_sub (by omega)
    have hs : rsB (m7 A (M 0 0) nw) w1 w2 (c / 7) (c % 7) (n + 1) k = if m7 A (M 0 0) nw k = true ∧ (w1 (c / 7) (c % 7) < w1 k (c % 7) ∨ w2 (c / 7) (c % 7) < w2 (c / 7) k) then false else rsB (m7 A (M 0 0) nw) w1 w2 (c / 7) (c % 7) n (k + 1) := rfl
    rw [hs] at he
    refine wX12_isRest_2 (by omega) m (nI c) (nI k) ?_
    simp only [rt_i, rt_b0, rt_b1, rt_v, rt_l, rt_o, rt_a, rV_none, rI_some, rL_some, rR_some, rT_some, rt_bI, hIf_sL, hIf_sR, hS_sI, hS_sL, hS_sR, hS_cpI, hR_sI, hR_sL, hR_cpI, hL_sI, hL_sR, hL_cpI, hI_sL, hI_sR, hN_sI, hN_sL, hN_sR, hN_cpI, hU_sI, hU_sL, hU_sR, hU_cpI, tn0, tn1, tn2, tn3, tn4, tn5, tn6, tn7, tn8, tn9, tn10, tn11, tn12, tn13, tn14, tn15, tn16, tn17, tn18, tn19, tn20, tn21, tn22, tn23, tn24, tn25, tn26, tn27, tn28, tn29, tn30, tn31, tn32, tn33, tn34, tn35, tn36, tn37, tn38, tn39, tn40, tn41, tn42, tn43, tn44, tn45, tn46, tn47, tn48, tn49, tn50, tn51, tn52, tn53, tn54, tn55, tn56, tn57, tn58, tn59, tn60, lH_eq, true_and, and_true, mdq_0 HM, h7, nI_1]
    refine ⟨fun z => absurd z (by omega), fun _ => ?_⟩
    refine m_mayRun (by omega) m nr nw k A M R od (by omega) hA H ?_
    simp only [rI_some, bI0, rt_i, rt_b0, rt_b1, rt_v, rt_l, rt_o, rt_a, rV_none, rI_some, rL_some, rR_some, rT_some, rt_bI, hIf_sL, hIf_sR, hS_sI, hS_sL, hS_sR, hS_cpI, hR_sI, hR_sL, hR_cpI, hL_sI, hL_sR, hL_cpI, hI_sL, hI_sR, hN_sI, hN_sL, hN_sR, hN_cpI, hU_sI, hU_sL, hU_sR, hU_cpI, tn0, tn1, tn2, tn3, tn4, tn5, tn6, tn7, tn8, tn9, tn10, tn11, tn12, tn13, tn14, tn15, tn16, tn17, tn18, tn19, tn20, tn21, tn22, tn23, tn24, tn25, tn26, tn27, tn28, tn29, tn30, tn31, tn32, tn33, tn34, tn35, tn36, tn37, tn38, tn39, tn40, tn41, tn42, tn43, tn44, tn45, tn46, tn47, tn48, tn49, tn50, tn51, tn52, tn53, tn54, tn55, tn56, tn57, tn58, tn59, tn60, lH_eq, true_and, and_true, mdq_0 HM, mdq_51 HM, mds_51 HM, mdq_52 HM, mds_52 HM, er, e7, es, nI_add, vp_in_nI (show c < 49 by omega) (show 49 < 2 ^ 31 by omega), nI_clamp (show c < 2 ^ 31 by omega), vp_in_nI (show 7 * k + c % 7 < 49 by omega) (show 49 < 2 ^ 31 by omega), nI_clamp (show 7 * k + c % 7 < 2 ^ 31 by omega), vp_in_nI (show c - c % 7 + k < 49 by omega) (show 49 < 2 ^ 31 by omega), nI_clamp (show c - c % 7 + k < 2 ^ 31 by omega), nI_1]
    refine ⟨fun z => ?_, fun z => ?_⟩
    · rw [if_neg (fun y => z y.1)] at he
      exact ih he
    · have z := Decidable.not_not.mp z
      have t0 := HT c hc mi mj
      have t1 := (HT (7 * k + c % 7) (by omega) (by rw [show (7 * k + c % 7) / 7 = k by omega]; exact z) (by rw [show (7 * k + c % 7) % 7 = c % 7 by omega]; exact mj)).1
      have t2 := (HT (c - c % 7 + k) (by omega) (by rw [show (c - c % 7 + k) / 7 = c / 7 by omega]; exact mi) (by rw [show (c - c % 7 + k) % 7 = k by omega]; exact z)).2
      rw [show (7 * k + c % 7) / 7 = k by omega, show (7 * k + c % 7) % 7 = c % 7 by omega] at t1
      rw [show (c - c % 7 + k) / 7 = c / 7 by omega, show (c - c % 7 + k) % 7 = k by omega] at t2
      rw [t0.1, t0.2, t1, t2]
      refine ⟨by decide, fun y => ?_, fun y => ⟨by decide, fun x => ?_, fun x => ?_⟩⟩
      · rw [if_pos ⟨z, Or.inl y⟩] at he
        rw [he, bI_f (by decide)] at kk
        exact ⟨e1, e2, kk⟩
      · rw [if_neg (fun v => v.2.elim y (fun v => absurd v (Int32.not_lt.mpr x)))] at he
        exact ih he
      · rw [if_pos ⟨z, Or.inr (i32_lt_of x)⟩] at he
        rw [he, bI_f (by decide)] at kk
        exact ⟨e1, e2, kk⟩
theorem rs3_loop {d E1 E2 : Nat} {Q : Option Value → AH → Prop} {h : AH} (hd : 7 ≤ d) (m nr nw : Nat) (A M : PC) (R : Option (List (List (Nat × Nat) × List (Nat × Nat)))) (od : Nat → Option Int32) (w1 w2 : Nat → Nat → Int32) (wh : Int32) (hA : hilOk nr nw A) (H : QC h m nr nw A M R od) (HT : TL h m (m7 A (M 0 0) nw) w1 w2 49) (e1 : hN h = E1) (e2 : hU h = E2) (kk : Q (some (.int (if wh = 0 then nI (ctF (p7 (m7 A (M 0 0) nw) w1 w2) 49) else rtV wh (foF (p7 (m7 A (M 0 0) nw) w1 w2) 49 0)))) h) : ∀ (n v : Nat) (fi : Int32), v + n = 49 → ctF (p7 (m7 A (M 0 0) nw) w1 w2) v ≤ v → (ctF (p7 (m7 A (M 0 0) nw) w1 w2) v = 0 → fi = -1 ∧ foF (p7 (m7 A (M 0 0) nw) w1 w2) 49 0 = foF (p7 (m7 A (M 0 0) nw) w1 w2) n v) → (ctF (p7 (m7 A (M 0 0) nw) w1 w2) v ≠ 0 → ∃ q, q < 49 ∧ fi = nI q ∧ foF (p7 (m7 A (M 0 0) nw) w1 w2) 49 0 = some q) → Reach d nX12_rests (51, [.ref m, .float 0, .float 0, .int wh, .int (nI (ctF (p7 (m7 A (M 0 0) nw) w1 w2) v)), .int fi, .int (nI v)], []) h E1 E2 Q
  | 0, v, fi, hv, hc, h1, h2 => by
    have : v = 49 := by omega
    subst this
    have h49 : ((49 : Int32) ≤ nI 49) = (49 ≤ 49) := nI_le_iff (a := 49) (b := 49) (by decide) (by decide)
    refine wX12_rests_51 (by omega) m wh _ fi (nI 49) ?_
    simp only [rt_i, rt_b0, rt_b1, rt_v, rt_l, rt_o, rt_a, rV_none, rI_some, rL_some, rR_some, rT_some, rt_bI, hIf_sL, hIf_sR, hS_sI, hS_sL, hS_sR, hS_cpI, hR_sI, hR_sL, hR_cpI, hL_sI, hL_sR, hL_cpI, hI_sL, hI_sR, hN_sI, hN_sL, hN_sR, hN_cpI, hU_sI, hU_sL, hU_sR, hU_cpI, tn0, tn1, tn2, tn3, tn4, tn5, tn6, tn7, tn8, tn9, tn10, tn11, tn12, tn13, tn14, tn15, tn16, tn17, tn18, tn19, tn20, tn21, tn22, tn23, tn24, tn25, tn26, tn27, tn28, tn29, tn30, tn31, tn32, tn33, tn34, tn35, tn36, tn37, tn38, tn39, tn40, tn41, tn42, tn43, tn44, tn45, tn46, tn47, tn48, tn49, tn50, tn51, tn52, tn53, tn54, tn55, tn56, tn57, tn58, tn59, tn60, lH_eq, true_and, and_true, h49]
    refine ⟨fun _ => ⟨fun z => ?_, fun z => ?_⟩, fun z => absurd (Nat.le_refl 49) z⟩
    · rw [if_neg z] at kk
      by_cases c : ctF (p7 (m7 A (M 0 0) nw) w1 w2) 49 = 0
      · obtain ⟨rfl, x⟩ := h1 c
        rw [x] at kk
        exact ⟨fun y => absurd rfl y, fun _ => ⟨e1, e2, kk⟩⟩
      · obtain ⟨q, hq, rfl, x⟩ := h2 c
        rw [x] at kk
        have ed : nI q / 7 = nI (q / 7) := pk_div (d := 7) (by omega) (by decide) (by decide)
        have er : nI q - nI q / 7 * 7 = nI (q % 7) := pk_rem (a := q) (d := 7) (by omega) (by decide) (by decide)
        rw [er, ed]
        refine ⟨fun y => ⟨fun x => ⟨by decide, e1, e2, ?_⟩, fun x => ⟨by decide, e1, e2, ?_⟩⟩, fun y => absurd y (nI_ne_m1 (by omega))⟩
        · simp only [rtV, if_neg x] at kk
          exact kk
        · simp only [rtV, if_pos x] at kk
          exact kk
    · rw [if_pos z] at kk
      exact ⟨e1, e2, kk⟩
  | n + 1, v, fi, hv, hc, h1, h2 => by
    have HM := H.1
    have ih := rs3_loop hd m nr nw A M R od w1 w2 wh hA H HT e1 e2 kk n (v + 1)
    have hml := Nat.mod_lt v (show 0 < 7 by decide)
    have h49 : ((49 : Int32) ≤ nI v) = (49 ≤ v) := nI_le_iff (a := 49) (b := v) (by decide) (by omega)
    have ed : nI v / 7 = nI (v / 7) := pk_div (d := 7) (by omega) (by decide) (by decide)
    have er : nI v - nI (v / 7) * 7 = nI (v % 7) := by
      have := pk_rem (a := v) (d := 7) (by omega) (by decide) (by decide)
      rw [← ed]; exact this
    have hs : ctF (p7 (m7 A (M 0 0) nw) w1 w2) (v + 1) = if p7 (m7 A (M 0 0) nw) w1 w2 v = true then ctF (p7 (m7 A (M 0 0) nw) w1 w2) v + 1 else ctF (p7 (m7 A (M 0 0) nw) w1 w2) v := rfl
    have hf : foF (p7 (m7 A (M 0 0) nw) w1 w2) (n + 1) v = if p7 (m7 A (M 0 0) nw) w1 w2 v = true then some v else foF (p7 (m7 A (M 0 0) nw) w1 w2) n (v + 1) := rfl
    have skip : p7 (m7 A (M 0 0) nw) w1 w2 v = false → Reach d nX12_rests (51, [.ref m, .float 0, .float 0, .int wh, .int (nI (ctF (p7 (m7 A (M 0 0) nw) w1 w2) v)), .int fi, .int (nI (v + 1))], []) h E1 E2 Q := fun z => by
      rw [z] at hs hf
      simp only [Bool.false_eq_true, if_false] at hs hf
      have := ih fi (by omega) (by rw [hs]; omega) (by rw [hs]; intro y; obtain ⟨x1, x2⟩ := h1 y; exact ⟨x1, by rw [x2, hf]⟩) (by rw [hs]; exact h2)
      rw [hs] at this
      exact this
    refine wX12_rests_51 (by omega) m wh _ fi (nI v) ?_
    simp only [rt_i, rt_b0, rt_b1, rt_v, rt_l, rt_o, rt_a, rV_none, rI_some, rL_some, rR_some, rT_some, rt_bI, hIf_sL, hIf_sR, hS_sI, hS_sL, hS_sR, hS_cpI, hR_sI, hR_sL, hR_cpI, hL_sI, hL_sR, hL_cpI, hI_sL, hI_sR, hN_sI, hN_sL, hN_sR, hN_cpI, hU_sI, hU_sL, hU_sR, hU_cpI, tn0, tn1, tn2, tn3, tn4, tn5, tn6, tn7, tn8, tn9, tn10, tn11, tn12, tn13, tn14, tn15, tn16, tn17, tn18, tn19, tn20, tn21, tn22, tn23, tn24, tn25, tn26, tn27, tn28, tn29, tn30, tn31, tn32, tn33, tn34, tn35, tn36, tn37, tn38, tn39, tn40, tn41, tn42, tn43, tn44, tn45, tn46, tn47, tn48, tn49, tn50, tn51, tn52, tn53, tn54, tn55, tn56, tn57, tn58, tn59, tn60, lH_eq, true_and, and_true, mdq_0 HM, h49, ed, er, nI_1]
    refine ⟨fun z => absurd z (by omega), fun _ => ⟨by decide, ?_⟩⟩
    refine m_mayRun (by omega) m nr nw (v / 7) A M R od (by omega) hA H ?_
    simp only [rI_some, bI0, rt_i, rt_b0, rt_b1, rt_v, rt_l, rt_o, rt_a, rV_none, rI_some, rL_some, rR_some, rT_some, rt_bI, hIf_sL, hIf_sR, hS_sI, hS_sL, hS_sR, hS_cpI, hR_sI, hR_sL, hR_cpI, hL_sI, hL_sR, hL_cpI, hI_sL, hI_sR, hN_sI, hN_sL, hN_sR, hN_cpI, hU_sI, hU_sL, hU_sR, hU_cpI, tn0, tn1, tn2, tn3, tn4, tn5, tn6, tn7, tn8, tn9, tn10, tn11, tn12, tn13, tn14, tn15, tn16, tn17, tn18, tn19, tn20, tn21, tn22, tn23, tn24, tn25, tn26, tn27, tn28, tn29, tn30, tn31, tn32, tn33, tn34, tn35, tn36, tn37, tn38, tn39, tn40, tn41, tn42, tn43, tn44, tn45, tn46, tn47, tn48, tn49, tn50, tn51, tn52, tn53, tn54, tn55, tn56, tn57, tn58, tn59, tn60, lH_eq, true_and, and_true, mdq_0 HM]
    refine ⟨fun z => skip (by simp [p7, z]), fun z => ⟨by decide, ?_⟩⟩
    refine m_mayRun (by omega) m nr nw (v % 7) A M R od (by omega) hA H ?_
    simp only [rI_some, bI0, rt_i, rt_b0, rt_b1, rt_v, rt_l, rt_o, rt_a, rV_none, rI_some, rL_some, rR_some, rT_some, rt_bI, hIf_sL, hIf_sR, hS_sI, hS_sL, hS_sR, hS_cpI, hR_sI, hR_sL, hR_cpI, hL_sI, hL_sR, hL_cpI, hI_sL, hI_sR, hN_sI, hN_sL, hN_sR, hN_cpI, hU_sI, hU_sL, hU_sR, hU_cpI, tn0, tn1, tn2, tn3, tn4, tn5, tn6, tn7, tn8, tn9, tn10, tn11, tn12, tn13, tn14, tn15, tn16, tn17, tn18, tn19, tn20, tn21, tn22, tn23, tn24, tn25, tn26, tn27, tn28, tn29, tn30, tn31, tn32, tn33, tn34, tn35, tn36, tn37, tn38, tn39, tn40, tn41, tn42, tn43, tn44, tn45, tn46, tn47, tn48, tn49, tn50, tn51, tn52, tn53, tn54, tn55, tn56, tn57, tn58, tn59, tn60, lH_eq, true_and, and_true, mdq_0 HM]
    refine ⟨fun y => skip (by simp [p7, y]), fun y => ?_⟩
    have z := Decidable.not_not.mp z
    have y := Decidable.not_not.mp y
    obtain ⟨d, rfl⟩ : ∃ d1, d = d1 + 1 := ⟨d - 1, by omega⟩
    refine wX12_isRest (by omega) m (nI v) ?_
    refine rq2_loop (by omega) m nr nw v A M R od w1 w2 (by omega) hA H HT z y rfl rfl ?_ 7 0 (by omega) rfl
    simp only [rI_some, bI0]
    refine ⟨fun x => skip (by simp [p7, x]), fun x => ?_⟩
    have x := Decidable.not_not.mp x
    have hp : p7 (m7 A (M 0 0) nw) w1 w2 v = true := by simp [p7, z, y, x]
    rw [hp] at hs hf
    simp only [if_true] at hs hf
    have hz : (nI (ctF (p7 (m7 A (M 0 0) nw) w1 w2) v) = 0) = (ctF (p7 (m7 A (M 0 0) nw) w1 w2) v = 0) := nI_eq_iff (b := 0) (by omega) (by decide)
    rw [hz]
    refine ⟨fun w => ?_, fun w => ?_⟩
    · have := ih fi (by omega) (by rw [hs]; omega) (by rw [hs]; intro q; omega) (fun _ => h2 w)
      rw [hs] at this
      exact this
    · have := ih (nI v) (by omega) (by rw [hs]; omega) (by rw [hs]; intro q; omega) (fun _ => ⟨v, by omega, rfl, by rw [(h1 w).2, hf]⟩)
      rw [hs] at this
      exact this
noncomputable def aRest (nr nw : Nat) (A M : PC) (R : Option (List (List (Nat × Nat) × List (Nat × Nat)))) (a b w : Int32) : Int32 := if (0 ≤ a ∧ a < nI nr) ∧ (0 ≤ b ∧ b < nI nr) ∧ a ≠ b ∧ (0 ≤ w ∧ w ≤ 2) then (if w = 0 then nI (ctF (p7 (m7 A (M 0 0) nw) (w1F R A nr nw M a.toNatClampNeg b.toNatClampNeg) (w2F R A nr nw M a.toNatClampNeg b.toNatClampNeg)) 49) else rtV w (foF (p7 (m7 A (M 0 0) nw) (w1F R A nr nw M a.toNatClampNeg b.toNatClampNeg) (w2F R A nr nw M a.toNatClampNeg b.toNatClampNeg)) 49 0)) else -3
theorem m_rests {d : Nat} {h : AH} {Q : Option Value → AH → Prop} (hd : 15 ≤ d) (m nr nw : Nat) (A M : PC) (R : Option (List (List (Nat × Nat) × List (Nat × Nat)))) (a b w : Int32) (H : QK h m nr nw A M R) (kk : ∀ h', Rs h h' m → M5 h' m → Q (some (.int (aRest nr nw A M R a b w))) h') (kk0 : aRest nr nw A M R a b w = -3 → Q (some (.int (-3))) h) : Calls d nX12_rests [.ref m, .int a, .int b, .int w] h (hN h) (hU h) Q := by
  obtain ⟨e, rfl⟩ : ∃ e, d = e + 1 := ⟨d - 1, by omega⟩
  have HQ := H
  obtain ⟨HC, H5, hr5, hw6, hh⟩ := H
  refine wX12_rests (by omega) m a b w ?_
  simp only [rt_i, rt_b0, rt_b1, rt_v, rt_l, rt_o, rt_a, rV_none, rI_some, rL_some, rR_some, rT_some, rt_bI, hIf_sL, hIf_sR, hS_sI, hS_sL, hS_sR, hS_cpI, hR_sI, hR_sL, hR_cpI, hL_sI, hL_sR, hL_cpI, hI_sL, hI_sR, hN_sI, hN_sL, hN_sR, hN_cpI, hU_sI, hU_sL, hU_sR, hU_cpI, tn0, tn1, tn2, tn3, tn4, tn5, tn6, tn7, tn8, tn9, tn10, tn11, tn12, tn13, tn14, tn15, tn16, tn17, tn18, tn19, tn20, tn21, tn22, tn23, tn24, tn25, tn26, tn27, tn28, tn29, tn30, tn31, tn32, tn33, tn34, tn35, tn36, tn37, tn38, tn39, tn40, tn41, tn42, tn43, tn44, tn45, tn46, tn47, tn48, tn49, tn50, tn51, tn52, tn53, tn54, tn55, tn56, tn57, tn58, tn59, tn60, lH_eq, true_and, and_true, mdq_0 HC.1]
  refine m_isRunner (by omega) m nr a HC.1 HC.2.1.1 hr5 ?_
  simp only [rI_some, bI0, mdq_0 HC.1, true_and]
  refine ⟨fun z => kk0 (by unfold aRest; rw [if_neg (fun y => z y.1)]), fun z => ?_⟩
  refine m_isRunner (by omega) m nr b HC.1 HC.2.1.1 hr5 ?_
  simp only [rI_some, bI0, mdq_0 HC.1, true_and]
  refine ⟨fun y => kk0 (by unfold aRest; rw [if_neg (fun x => y x.2.1)]), fun y => ⟨fun x => kk0 (by unfold aRest; rw [if_neg (fun v => v.2.2.1 x)]), fun x => ?_⟩⟩
  refine m_in32 (by omega) w 0 2 rfl rfl rfl ?_
  simp only [rI_some, bI0, mdq_0 HC.1, true_and]
  refine ⟨fun v => ?_, fun v => kk0 (by unfold aRest; rw [if_neg (fun u => v u.2.2.2)])⟩
  have z := Decidable.not_not.mp z
  have y := Decidable.not_not.mp y
  have v := Decidable.not_not.mp v
  have ea : aRest nr nw A M R a b w = (if w = 0 then nI (ctF (p7 (m7 A (M 0 0) nw) (w1F R A nr nw M a.toNatClampNeg b.toNatClampNeg) (w2F R A nr nw M a.toNatClampNeg b.toNatClampNeg)) 49) else rtV w (foF (p7 (m7 A (M 0 0) nw) (w1F R A nr nw M a.toNatClampNeg b.toNatClampNeg) (w2F R A nr nw M a.toNatClampNeg b.toNatClampNeg)) 49 0)) := if_pos ⟨z, y, x, v⟩
  rw [ea] at kk
  obtain ⟨p, hp, rfl⟩ := rn_of (by omega) z
  obtain ⟨q, hq, rfl⟩ := rn_of (by omega) y
  rw [nI_clamp (by omega), nI_clamp (by omega)] at kk
  have hok := HQ.of_r (by omega)
  refine m_laysRuns (by omega) m nr nw p q A M R hp hq (fun c => x (by rw [c])) HQ (fun h' S h5 T => ?_)
  have e3 := S.1.1
  rw [rV_none]
  exact rs3_loop (by omega) m nr nw A M R _ _ _ w hok.1 (HQ.rs S h5).1 T e3.2.2.1 e3.2.2.2.1 (kk h' S h5) 49 0 (-1) (by omega) (Nat.le_refl 0) (fun _ => ⟨rfl, rfl⟩) (fun c => absurd rfl c)

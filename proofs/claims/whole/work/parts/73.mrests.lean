/-! the rests of two, reference -/
theorem qc_ord {h h' : AH} {m nr nw : Nat} {A N : PC} {R : Option (List (List (Nat × Nat) × List (Nat × Nat)))} {od od' : Nat → Option Int32} (H : QC h m nr nw A N R od) (f : Fr' h h' (fun c => c = m + 32)) (ho : MOrd h' m nr od') : QC h' m nr nw A N R od' := by
  obtain ⟨H0, ⟨a1, a2, a3, a4, a5⟩, H2, H3, -⟩ := H
  have g : ∀ c, c ≠ m + 32 → ∀ j, hI h' c j = hI h c j := fun c hc j => f.2.2.2.2.1 c hc j
  have eA : rA h' m = rA h m := by
    funext k j
    unfold rA
    split <;> exact g _ (by omega) _
  have eM : rM h' m = rM h m := by
    funext k j
    unfold rM
    split <;> exact g _ (by omega) _
  exact ⟨H0.fr f, ⟨by rw [g _ (by omega)]; exact a1, by rw [g _ (by omega)]; exact a2, by rw [eA]; exact a3, by rw [eA]; exact a4, by rw [eA]; exact a5⟩, by rw [eM]; exact H2, H3.cg (fun b h1 h2 => g b (by omega)) (g _ (by omega) 6), ho⟩
theorem m_mayRun {d : Nat} {h : AH} {Q : Option Value → AH → Prop} (hd : 6 ≤ d) (m nr nw k : Nat) (A N : PC) (R : Option (List (List (Nat × Nat) × List (Nat × Nat)))) (od : Nat → Option Int32) (hk : k < 7) (hA : hilOk nr nw A) (H : QC h m nr nw A N R od) (kk : Q (some (.int (bI (m7 A (N 0 0) nw k = true)))) h) : Calls d nX12_mayRun [.ref m, .int (nI k)] h (hN h) (hU h) Q := by
  obtain ⟨e, rfl⟩ : ∃ e, d = e + 1 := ⟨d - 1, by omega⟩
  have hw6 := hA.2.1
  have HM := H.1
  have h0 : (nI k = 0) = (k = 0) := nI_eq_iff (b := 0) (by omega) (by decide)
  have e2 : hI h (m + 1) 2 = nI nw := H.2.1.2.1
  refine wX12_mayRun (by omega) m (nI k) ?_
  simp only [rt_i, rt_b0, rt_b1, rt_v, rt_l, rt_o, rt_a, rV_none, rI_some, rL_some, rR_some, rT_some, rt_bI, hIf_sL, hIf_sR, hS_sI, hS_sL, hS_sR, hS_cpI, hR_sI, hR_sL, hR_cpI, hL_sI, hL_sR, hL_cpI, hI_sL, hI_sR, hN_sI, hN_sL, hN_sR, hN_cpI, hU_sI, hU_sL, hU_sR, hU_cpI, tn0, tn1, tn2, tn3, tn4, tn5, tn6, tn7, tn8, tn9, tn10, tn11, tn12, tn13, tn14, tn15, tn16, tn17, tn18, tn19, tn20, tn21, tn22, tn23, tn24, tn25, tn26, tn27, tn28, tn29, tn30, tn31, tn32, tn33, tn34, tn35, tn36, tn37, tn38, tn39, tn40, tn41, tn42, tn43, tn44, tn45, tn46, tn47, tn48, tn49, tn50, tn51, tn52, tn53, tn54, tn55, tn56, tn57, tn58, tn59, tn60, lH_eq, true_and, and_true, mdq_0 HM, mdq_1 HM, mds_1 HM, vl7_0, vl7_1, vl7_2, vl7_3, vl7_4, vl7_5, vl7_6, h0, e2, nI_lt_iff (show nw < 2 ^ 31 by omega) (show k < 2 ^ 31 by omega)]
  refine ⟨fun z => ?_, fun z => ⟨fun y => ?_, fun y => ?_⟩⟩
  · rw [bI_t (by simp [m7, mrB, z])] at kk
    exact kk
  · rw [bI_f (by rw [m7_f y]; decide)] at kk
    exact kk
  · obtain ⟨w, rfl⟩ : ∃ w, k = w + 1 := ⟨k - 1, by omega⟩
    have e8 : hI h (m + 8) w = A 5 w := (H.2.1.2.2.1.2 w (by omega)).2
    have e13 : hI h (m + 1) 3 = N 0 0 := H.2.2.1.1
    have es : nI (w + 1) - 1 = nI w := pk_sub (a := w + 1) (b := 1) (by omega)
    rw [es]
    refine m_isThere (by omega) m w HM (by omega) (by rw [e8]; exact pos_of (hA.2.2.2.2 w (by omega)).2.2.1) ?_
    have hm : (m7 A (N 0 0) nw (w + 1) = true) = (0 < A 5 w ∧ irm (N 0 0) (A 5 w) = 0) := by
      rw [m7_t (by omega)]
      simp only [mrB, Nat.add_sub_cancel]
      rw [← thB_t]
      simp
    simp only [rI_some, bI0, e8, e13, true_and]
    refine ⟨fun x => ?_, fun x => ?_⟩
    · rw [bI_f (by rw [hm]; exact x)] at kk
      exact kk
    · rw [bI_t (by rw [hm]; exact Decidable.not_not.mp x)] at kk
      exact kk
def TL (h : AH) (m : Nat) (mm : Nat → Bool) (w1 w2 : Nat → Nat → Int32) (n : Nat) : Prop := ∀ c, c < n → mm (c / 7) = true → mm (c % 7) = true → hI h (m + 38) c = w1 (c / 7) (c % 7) ∧ hI h (m + 39) c = w2 (c / 7) (c % 7)
theorem lr_loop {d E1 E2 : Nat} {Q : Option Value → AH → Prop} {h0 : AH} (hd : 12 ≤ d) (m nr nw one other : Nat) (A M : PC) (R : Option (List (List (Nat × Nat) × List (Nat × Nat)))) (h1 : one < nr) (h2 : other < nr) (hno : one ≠ other) (H0 : QK h0 m nr nw A M R) (e1 : hN h0 = E1) (e2 : hU h0 = E2) (k : ∀ h', Rs h0 h' m → M5 h' m → TL h' m (m7 A (M 0 0) nw) (w1F R A nr nw M one other) (w2F R A nr nw M one other) 49 → Q none h') : ∀ (n v : Nat) (h : AH) (od : Nat → Option Int32), v + n = 49 → Rs h0 h m → QC h m nr nw A M R od → (∀ j, j < 5 → j ≠ one → j ≠ other → hI h (m + 32) j = -5) → TL h m (m7 A (M 0 0) nw) (w1F R A nr nw M one other) (w2F R A nr nw M one other) v → Reach d nX12_laysRuns (22, [.ref m, .int (nI one), .int (nI other), .int (M 3 one), .int (M 3 other), .int (nI v)], []) h E1 E2 Q
  | 0, v, h, od, hv, S, HQ, ho, HT => by
    have : v = 49 := by omega
    subst this
    have hok := H0.of_r (by omega)
    have hr5 := hok.1.1
    have HM := HQ.1
    refine wX12_laysRuns_22 (by omega) m (nI one) (nI other) (M 3 one) (M 3 other) (nI 49) ?_
    have h49 : ((49 : Int32) ≤ nI 49) = (49 ≤ 49) := nI_le_iff (a := 49) (b := 49) (by decide) (by decide)
    simp only [rt_i, rt_b0, rt_b1, rt_v, rt_l, rt_o, rt_a, rV_none, rI_some, rL_some, rR_some, rT_some, rt_bI, hIf_sL, hIf_sR, hS_sI, hS_sL, hS_sR, hS_cpI, hR_sI, hR_sL, hR_cpI, hL_sI, hL_sR, hL_cpI, hI_sL, hI_sR, hN_sI, hN_sL, hN_sR, hN_cpI, hU_sI, hU_sL, hU_sR, hU_cpI, tn0, tn1, tn2, tn3, tn4, tn5, tn6, tn7, tn8, tn9, tn10, tn11, tn12, tn13, tn14, tn15, tn16, tn17, tn18, tn19, tn20, tn21, tn22, tn23, tn24, tn25, tn26, tn27, tn28, tn29, tn30, tn31, tn32, tn33, tn34, tn35, tn36, tn37, tn38, tn39, tn40, tn41, tn42, tn43, tn44, tn45, tn46, tn47, tn48, tn49, tn50, tn51, tn52, tn53, tn54, tn55, tn56, tn57, tn58, tn59, tn60, lH_eq, true_and, and_true, mdq_0 HM, mdq_42 HM, mds_42 HM, vp_in_nI (show one < 5 by omega) (show 5 < 2 ^ 31 by omega), nI_clamp (show one < 2 ^ 31 by omega), vp_in_nI (show other < 5 by omega) (show 5 < 2 ^ 31 by omega), nI_clamp (show other < 2 ^ 31 by omega), h49]
    refine ⟨fun _ => ?_, fun z => absurd (Nat.le_refl 49) z⟩
    have f2 : Fr' h (sI (sI h (m + 32) one (-5)) (m + 32) other (-5)) (fun c => c = m + 32) := (Fr'.sI (S := fun c => c = m + 32) rfl).trans (Fr'.sI rfl)
    have S2 := S.1.wr f2 (fun c z => by omega)
    have e3 := S2.1
    refine ⟨e3.2.2.1.trans e1, e3.2.2.2.1.trans e2, k _ ⟨S2, fun r hr j hj => by rw [f2.2.2.2.2.1 (m + r) (by have := six_rows r hr; omega)]; exact S.2 r hr j hj⟩ (fun j hj => ?_) (fun c hc c1 c2 => ?_)⟩
    · simp only [hI_sI, if_true]
      by_cases c : j = other
      · rw [if_pos c]
      · rw [if_neg c]
        by_cases c2 : j = one
        · rw [if_pos c2]
        · rw [if_neg c2]; exact ho j hj c2 c
    · rw [f2.2.2.2.2.1 (m + 38) (by omega), f2.2.2.2.2.1 (m + 39) (by omega)]
      exact HT c hc c1 c2
  | n + 1, v, h, od, hv, S, HQ, ho, HT => by
    have hok := H0.of_r (by omega)
    have hr5 := hok.1.1
    have hw6 := hok.1.2.1
    have HM := HQ.1
    have h49 : ((49 : Int32) ≤ nI v) = (49 ≤ v) := nI_le_iff (a := 49) (b := v) (by decide) (by omega)
    have ed : nI v / 7 = nI (v / 7) := pk_div (d := 7) (by omega) (by decide) (by decide)
    have er : nI v - nI (v / 7) * 7 = nI (v % 7) := by
      have := pk_rem (a := v) (d := 7) (by omega) (by decide) (by decide)
      rw [← ed]; exact this
    have hml := Nat.mod_lt v (show 0 < 7 by decide)
    have skip : ¬ (m7 A (M 0 0) nw (v / 7) = true ∧ m7 A (M 0 0) nw (v % 7) = true) → Reach d nX12_laysRuns (22, [.ref m, .int (nI one), .int (nI other), .int (M 3 one), .int (M 3 other), .int (nI (v + 1))], []) h E1 E2 Q := fun z => by
      refine lr_loop hd m nr nw one other A M R h1 h2 hno H0 e1 e2 k n (v + 1) h od (by omega) S HQ ho (fun c hc c1 c2 => ?_)
      by_cases cc : c = v
      · subst cc
        exact absurd ⟨c1, c2⟩ z
      · exact HT c (by omega) c1 c2
    refine wX12_laysRuns_22 (by omega) m (nI one) (nI other) (M 3 one) (M 3 other) (nI v) ?_
    simp only [rt_i, rt_b0, rt_b1, rt_v, rt_l, rt_o, rt_a, rV_none, rI_some, rL_some, rR_some, rT_some, rt_bI, hIf_sL, hIf_sR, hS_sI, hS_sL, hS_sR, hS_cpI, hR_sI, hR_sL, hR_cpI, hL_sI, hL_sR, hL_cpI, hI_sL, hI_sR, hN_sI, hN_sL, hN_sR, hN_cpI, hU_sI, hU_sL, hU_sR, hU_cpI, tn0, tn1, tn2, tn3, tn4, tn5, tn6, tn7, tn8, tn9, tn10, tn11, tn12, tn13, tn14, tn15, tn16, tn17, tn18, tn19, tn20, tn21, tn22, tn23, tn24, tn25, tn26, tn27, tn28, tn29, tn30, tn31, tn32, tn33, tn34, tn35, tn36, tn37, tn38, tn39, tn40, tn41, tn42, tn43, tn44, tn45, tn46, tn47, tn48, tn49, tn50, tn51, tn52, tn53, tn54, tn55, tn56, tn57, tn58, tn59, tn60, lH_eq, true_and, and_true, mdq_0 HM, mdq_2 HM, mds_2 HM, mdq_3 HM, mds_3 HM, mdq_42 HM, mds_42 HM, mdq_51 HM, mds_51 HM, mdq_52 HM, mds_52 HM, vp_in_nI (show one < 5 by omega) (show 5 < 2 ^ 31 by omega), nI_clamp (show one < 2 ^ 31 by omega), vp_in_nI (show other < 5 by omega) (show 5 < 2 ^ 31 by omega), nI_clamp (show other < 2 ^ 31 by omega), vp_in_nI (show v < 49 by omega) (show 49 < 2 ^ 31 by omega), nI_clamp (show v < 2 ^ 31 by omega), h49, ed, er, nI_1, hI_sI]
    refine ⟨fun z => absurd z (by omega), fun _ => ⟨by decide, ?_⟩⟩
    refine m_mayRun (by omega) m nr nw (v / 7) A M R od (by omega) hok.1 HQ ?_
    simp only [rI_some, bI0, rt_i, rt_b0, rt_b1, rt_v, rt_l, rt_o, rt_a, rV_none, rI_some, rL_some, rR_some, rT_some, rt_bI, hIf_sL, hIf_sR, hS_sI, hS_sL, hS_sR, hS_cpI, hR_sI, hR_sL, hR_cpI, hL_sI, hL_sR, hL_cpI, hI_sL, hI_sR, hN_sI, hN_sL, hN_sR, hN_cpI, hU_sI, hU_sL, hU_sR, hU_cpI, tn0, tn1, tn2, tn3, tn4, tn5, tn6, tn7, tn8, tn9, tn10, tn11, tn12, tn13, tn14, tn15, tn16, tn17, tn18, tn19, tn20, tn21, tn22, tn23, tn24, tn25, tn26, tn27, tn28, tn29, tn30, tn31, tn32, tn33, tn34, tn35, tn36, tn37, tn38, tn39, tn40, tn41, tn42, tn43, tn44, tn45, tn46, tn47, tn48, tn49, tn50, tn51, tn52, tn53, tn54, tn55, tn56, tn57, tn58, tn59, tn60, lH_eq, true_and, and_true, mdq_0 HM]
    refine ⟨fun z => skip (fun y => z y.1), fun z => ⟨by decide, ?_⟩⟩
    refine m_mayRun (by omega) m nr nw (v % 7) A M R od (by omega) hok.1 HQ ?_
    simp only [rI_some, bI0, rt_i, rt_b0, rt_b1, rt_v, rt_l, rt_o, rt_a, rV_none, rI_some, rL_some, rR_some, rT_some, rt_bI, hIf_sL, hIf_sR, hS_sI, hS_sL, hS_sR, hS_cpI, hR_sI, hR_sL, hR_cpI, hL_sI, hL_sR, hL_cpI, hI_sL, hI_sR, hN_sI, hN_sL, hN_sR, hN_cpI, hU_sI, hU_sL, hU_sR, hU_cpI, tn0, tn1, tn2, tn3, tn4, tn5, tn6, tn7, tn8, tn9, tn10, tn11, tn12, tn13, tn14, tn15, tn16, tn17, tn18, tn19, tn20, tn21, tn22, tn23, tn24, tn25, tn26, tn27, tn28, tn29, tn30, tn31, tn32, tn33, tn34, tn35, tn36, tn37, tn38, tn39, tn40, tn41, tn42, tn43, tn44, tn45, tn46, tn47, tn48, tn49, tn50, tn51, tn52, tn53, tn54, tn55, tn56, tn57, tn58, tn59, tn60, lH_eq, true_and, and_true, mdq_0 HM, mdq_2 HM, mds_2 HM, mdq_3 HM, mds_3 HM, mdq_42 HM, mds_42 HM, mdq_51 HM, mds_51 HM, mdq_52 HM, mds_52 HM, vp_in_nI (show one < 5 by omega) (show 5 < 2 ^ 31 by omega), nI_clamp (show one < 2 ^ 31 by omega), vp_in_nI (show other < 5 by omega) (show 5 < 2 ^ 31 by omega), nI_clamp (show other < 2 ^ 31 by omega), vp_in_nI (show v < 49 by omega) (show 49 < 2 ^ 31 by omega), nI_clamp (show v < 2 ^ 31 by omega)]
    refine ⟨fun y => skip (fun x => y x.2), fun y => ⟨by decide, by decide, ?_⟩⟩
    have z := Decidable.not_not.mp z
    have y := Decidable.not_not.mp y
    have f2 : Fr' h (sI (sI h (m + 32) one (nI (v / 7) - 1)) (m + 32) other (nI (v % 7) - 1)) (fun c => c = m + 32) := (Fr'.sI (S := fun c => c = m + 32) rfl).trans (Fr'.sI rfl)
    generalize hg : sI (sI h (m + 32) one (nI (v / 7) - 1)) (m + 32) other (nI (v % 7) - 1) = g2 at f2
    have m2 : ∀ j, hI g2 (m + 32) j = if j = other then cI (v % 7) else if j = one then cI (v / 7) else hI h (m + 32) j := fun j => by
      rw [← hg]; simp only [hI_sI, if_true]; rfl
    have Q2 := qc_ord (od' := od2 one other (v / 7) (v % 7)) HQ f2 (fun j hj => by
      rw [m2]
      by_cases c : j = other
      · subst c
        simp only [od2, if_true, odI]
        exact ⟨trivial, fun z => cI_m5 (by omega) (Option.some.inj z)⟩
      · by_cases c2 : j = one
        · subst c2
          simp only [od2, if_neg c, if_true, odI]
          exact ⟨trivial, fun z => cI_m5 (by omega) (Option.some.inj z)⟩
        · simp only [od2, if_neg c, if_neg c2, odI]
          exact ⟨ho j (by omega) c2 c, fun z => by cases z⟩)
    have S2 := S.1.wr f2 (fun c z => by omega)
    have n2 := f2.2.2.1
    have u2 := f2.2.2.2.1
    rw [← n2, ← u2]
    refine qc_goes (h := g2) (by omega) m nr nw A M R _ Q2 hok.1 hok.2 (fun h3 f3 q3 Q3 => ?_)
    have HM3 := Q3.1
    have p3 : ∀ r, r < nr → hI h3 (m + 3) r = paF R A nr nw (od2 one other (v / 7) (v % 7)) M 3 r := fun r hr => (Q3.2.2.1.2.1 r hr).2.2
    have p2 : ∀ r, r < nr → hI h3 (m + 2) r = paF R A nr nw (od2 one other (v / 7) (v % 7)) M 2 r := fun r hr => (Q3.2.2.1.2.1 r hr).2.1
    have w1 : 2 * (hI h3 (m + 3) one - M 3 one) + hI h3 (m + 2) one = w1F R A nr nw M one other (v / 7) (v % 7) := by rw [p3 _ h1, p2 _ h1]; rfl
    have w2 : 2 * (hI h3 (m + 3) other - M 3 other) + hI h3 (m + 2) other = w2F R A nr nw M one other (v / 7) (v % 7) := by rw [p3 _ h2, p2 _ h2]; rfl
    simp only [rI_some, rt_i, rt_b0, rt_b1, rt_v, rt_l, rt_o, rt_a, rV_none, rI_some, rL_some, rR_some, rT_some, rt_bI, hIf_sL, hIf_sR, hS_sI, hS_sL, hS_sR, hS_cpI, hR_sI, hR_sL, hR_cpI, hL_sI, hL_sR, hL_cpI, hI_sL, hI_sR, hN_sI, hN_sL, hN_sR, hN_cpI, hU_sI, hU_sL, hU_sR, hU_cpI, tn0, tn1, tn2, tn3, tn4, tn5, tn6, tn7, tn8, tn9, tn10, tn11, tn12, tn13, tn14, tn15, tn16, tn17, tn18, tn19, tn20, tn21, tn22, tn23, tn24, tn25, tn26, tn27, tn28, tn29, tn30, tn31, tn32, tn33, tn34, tn35, tn36, tn37, tn38, tn39, tn40, tn41, tn42, tn43, tn44, tn45, tn46, tn47, tn48, tn49, tn50, tn51, tn52, tn53, tn54, tn55, tn56, tn57, tn58, tn59, tn60, lH_eq, true_and, and_true, mdq_0 HM3, mdq_2 HM3, mds_2 HM3, mdq_3 HM3, mds_3 HM3, mdq_51 HM3, mds_51 HM3, mdq_52 HM3, mds_52 HM3, vp_in_nI (show one < 5 by omega) (show 5 < 2 ^ 31 by omega), nI_clamp (show one < 2 ^ 31 by omega), vp_in_nI (show other < 5 by omega) (show 5 < 2 ^ 31 by omega), nI_clamp (show other < 2 ^ 31 by omega), vp_in_nI (show v < 49 by omega) (show 49 < 2 ^ 31 by omega), nI_clamp (show v < 2 ^ 31 by omega), hI_sI, show (m + 3 = m + 38) = False by simp, show (m + 2 = m + 38) = False by simp, if_false, w1, w2]
    have f4 : Fr' h3 (sI (sI h3 (m + 38) v (w1F R A nr nw M one other (v / 7) (v % 7))) (m + 39) v (w2F R A nr nw M one other (v / 7) (v % 7))) (fun c => c = m + 38 ∨ c = m + 39) := (Fr'.sI (Or.inl rfl)).trans (Fr'.sI (Or.inr rfl))
    have S4 := (S2.wr f3 (fun c z => gs_ok z)).wr f4 (fun c z => by omega)
    refine sv_lays (h0 := h0) (h := sI (sI h3 (m + 38) v (w1F R A nr nw M one other (v / 7) (v % 7))) (m + 39) v (w2F R A nr nw M one other (v / 7) (v % 7))) (by omega) m H0.1.1 S4 (fun h5 S5 f5 m5 => ?_)
    rw [rV_none]
    have e32 : ∀ j, hI h5 (m + 32) j = hI g2 (m + 32) j := fun j => by rw [m5, f4.2.2.2.2.1 (m + 32) (by omega), f3.2.2.2.2.1 (m + 32) (by unfold GS; omega)]
    have lay : ∀ x, x = 38 ∨ x = 39 → ∀ j, hI h5 (m + x) j = hI (sI (sI h3 (m + 38) v (w1F R A nr nw M one other (v / 7) (v % 7))) (m + 39) v (w2F R A nr nw M one other (v / 7) (v % 7))) (m + x) j := fun x hx j => by
      rw [f5.2.2.2.2.1 (m + x) (fun z => by
        rcases z with z | ⟨q, hq, z⟩
        · omega
        · have := rows_lt q hq
          omega)]
    refine lr_loop hd m nr nw one other A M R h1 h2 hno H0 e1 e2 k n (v + 1) h5 (od2 one other (v / 7) (v % 7)) (by omega) S5 (rs_qc hr5 hw6 H0.1 S5 (fun j hj => by rw [e32]; exact Q2.2.2.2.2 j hj)) (fun j hj c1 c2 => by rw [e32, m2, if_neg c2, if_neg c1]; exact ho j hj c1 c2) (fun c hc c1 c2 => ?_)
    rw [lay 38 (Or.inl rfl), lay 39 (Or.inr rfl)]
    simp only [hI_sI, show (m + 38 = m + 39) = False by simp, show (m + 39 = m + 38) = False by simp, if_false, if_true]
    by_cases cc : c = v
    · subst cc
      rw [if_pos rfl, if_pos rfl]
      exact ⟨rfl, rfl⟩
    · rw [if_neg cc, if_neg cc, f3.2.2.2.2.1 (m + 38) (by unfold GS; omega), f3.2.2.2.2.1 (m + 39) (by unfold GS; omega), f2.2.2.2.2.1 (m + 38) (by omega), f2.2.2.2.2.1 (m + 39) (by omega)]
      exact HT c (by omega) c1 c2
theorem m_laysRuns {d : Nat} {h : AH} {Q : Option Value → AH → Prop} (hd : 13 ≤ d) (m nr nw one other : Nat) (A M : PC) (R : Option (List (List (Nat × Nat) × List (Nat × Nat)))) (h1 : one < nr) (h2 : other < nr) (hno : one ≠ other) (H : QK h m nr nw A M R) (k : ∀ h', Rs h h' m → M5 h' m → TL h' m (m7 A (M 0 0) nw) (w1F R A nr nw M one other) (w2F R A nr nw M one other) 49 → Q none h') : Calls d nX12_laysRuns [.ref m, .int (nI one), .int (nI other)] h (hN h) (hU h) Q := by
  obtain ⟨e, rfl⟩ : ∃ e, d = e + 1 := ⟨d - 1, by omega⟩
  have hok := H.of_r (by omega)
  have hr5 := hok.1.1
  refine wX12_laysRuns (by omega) m (nI one) (nI other) ?_
  simp only [rt_i, rt_b0, rt_b1, rt_v, rt_l, rt_o, rt_a, rV_none, rI_some, rL_some, rR_some, rT_some, rt_bI, hIf_sL, hIf_sR, hS_sI, hS_sL, hS_sR, hS_cpI, hR_sI, hR_sL, hR_cpI, hL_sI, hL_sR, hL_cpI, hI_sL, hI_sR, hN_sI, hN_sL, hN_sR, hN_cpI, hU_sI, hU_sL, hU_sR, hU_cpI, tn0, tn1, tn2, tn3, tn4, tn5, tn6, tn7, tn8, tn9, tn10, tn11, tn12, tn13, tn14, tn15, tn16, tn17, tn18, tn19, tn20, tn21, tn22, tn23, tn24, tn25, tn26, tn27, tn28, tn29, tn30, tn31, tn32, tn33, tn34, tn35, tn36, tn37, tn38, tn39, tn40, tn41, tn42, tn43, tn44, tn45, tn46, tn47, tn48, tn49, tn50, tn51, tn52, tn53, tn54, tn55, tn56, tn57, tn58, tn59, tn60, lH_eq, true_and, and_true, mdq_0 H.1.1]
  refine QK.keep (by omega) H (fun h' S m1 H1 => ?_)
  have HM := H1.1
  have p : ∀ r, r < nr → hI h' (m + 3) r = M 3 r := fun r hr => (H1.2.2.1.2.1 r hr).2.2
  simp only [rV_none, mdq_0 HM, mdq_3 HM, mds_3 HM, vp_in_nI (show one < 5 by omega) (show 5 < 2 ^ 31 by omega), nI_clamp (show one < 2 ^ 31 by omega), vp_in_nI (show other < 5 by omega) (show 5 < 2 ^ 31 by omega), nI_clamp (show other < 2 ^ 31 by omega), true_and, p one h1, p other h2]
  exact lr_loop (by omega) m nr nw one other A M R h1 h2 hno H rfl rfl k 49 0 h' _ (by omega) S H1 (fun j hj _ _ => by rw [m1]; exact H.2.1 j hj) (fun c hc => absurd hc (Nat.not_lt_zero c))

/-! wealth grows by one ware a day at most -/
theorem ftF_ai (ai sp pu : Nat → Int32) (p : Int32) (w : Nat) : ∀ (n b : Nat), ftF ai sp pu p w n = some b → ai b = nI w
  | 0, b, h => by cases h
  | n + 1, b, h => by
    unfold ftF at h
    split at h
    · rename_i z
      split at h
      · cases h; exact z
      · rename_i c hc
        split at h
        · cases h; exact z
        · cases h; exact ftF_ai ai sp pu p w n _ hc
    · exact ftF_ai ai sp pu p w n b h
theorem rwF_no {ai pu we wo : Nat → Int32} {gt : Nat → Option Nat} {nr r : Nat} (hg : ∀ w f, gt w = some f → ai f = nI w) : ∀ n, (∀ w, w < n → ai r ≠ nI w) → (rwF ai nr wo gt pu we n).2 r = we r
  | 0, _ => rfl
  | n + 1, h => by
    have ih := rwF_no (pu := pu) (we := we) (wo := wo) (nr := nr) hg n (fun w hw => h w (by omega))
    simp only [rwF]
    cases hb : gt n with
    | none => exact ih
    | some f =>
      simp only [upd]
      rw [if_neg (fun z => ?_)]
      · exact ih
      · subst z
        exact h n (by omega) (hg n _ hb)
theorem rwF_one {ai pu we wo : Nat → Int32} {gt : Nat → Option Nat} {nr r : Nat} (hg : ∀ w f, gt w = some f → ai f = nI w) (hw : 0 ≤ (we r).toInt ∧ (we r).toInt ≤ 9999) : ∀ n, n ≤ 6 → (∀ j, j < n → 1 ≤ (wo j).toInt ∧ (wo j).toInt ≤ 50) → (we r).toInt ≤ ((rwF ai nr wo gt pu we n).2 r).toInt ∧ ((rwF ai nr wo gt pu we n).2 r).toInt ≤ (we r).toInt + 50
  | 0, _, _ => ⟨Int.le_refl _, by show (we r).toInt ≤ (we r).toInt + 50; omega⟩
  | n + 1, hn, h => by
    have ih := rwF_one (pu := pu) (nr := nr) hg hw n (by omega) (fun j hj => h j (by omega))
    have h0 := h n (by omega)
    simp only [rwF]
    cases hb : gt n with
    | none => exact ih
    | some f =>
      simp only [upd]
      by_cases c : r = f
      · subst c
        have ha := hg n _ hb
        have e := rwF_no (pu := pu) (we := we) (wo := wo) (nr := nr) (r := r) hg n (fun w hw2 z => by
          have := (nI_eq (a := w) (b := n) (by omega) (by omega)).mp (z.symm.trans ha)
          omega)
        rw [if_pos rfl, e]
        have := t_min9999 (x := we r) (y := wo n) hw ⟨by omega, h0.2⟩
        omega
      · rw [if_neg c]
        exact ih
theorem paF_we {R : Option (List (List (Nat × Nat) × List (Nat × Nat)))} {A M : PC} {nr nw r : Nat} {od : Nat → Option Int32} {D : Int} (hA : hilOk nr nw A) (hM : momOk D nr nw M) (hr : r < nr) : (M 3 r).toInt ≤ (paF R A nr nw od M 3 r).toInt ∧ (paF R A nr nw od M 3 r).toInt ≤ (M 3 r).toInt + 50 := rwF_one (fun w f h => ftF_ai _ _ _ _ _ _ _ h) (hM.2.1 r hr).2.2 nw hA.2.1 (fun j hj => (hA.2.2.2.2 j hj).2.1)
theorem itF_ok {R : Option (List (List (Nat × Nat) × List (Nat × Nat)))} {A M : PC} {nr nw : Nat} {D : Int} (hA : hilOk nr nw A) (hM : momOk D nr nw M) (hD : D ≤ 500000) : ∀ n : Nat, n ≤ 1000 → momOk (D + n) nr nw (itF R A nr nw n M)
  | 0, _ => by simpa [itF] using hM
  | n + 1, hn => by
    have ih := itF_ok (R := R) hA hM hD n (by omega)
    have := paF_ok (R := R) (od := fun _ => none) (by omega) hA ih
    simp only [itF]
    rw [show D + ((n + 1 : Nat) : Int) = D + n + 1 by omega]
    exact this
theorem itF_in {R : Option (List (List (Nat × Nat) × List (Nat × Nat)))} {A : PC} {nr nw : Nat} : ∀ (n : Nat) (M : PC), itF R A nr nw n (paF R A nr nw (fun _ => none) M) = itF R A nr nw (n + 1) M
  | 0, M => rfl
  | n + 1, M => by
    show paF R A nr nw (fun _ => none) (itF R A nr nw n (paF R A nr nw (fun _ => none) M)) = paF R A nr nw (fun _ => none) (itF R A nr nw (n + 1) M)
    rw [itF_in n M]
theorem itF_we {R : Option (List (List (Nat × Nat) × List (Nat × Nat)))} {A M : PC} {nr nw r : Nat} {D : Int} (hA : hilOk nr nw A) (hM : momOk D nr nw M) (hD : D ≤ 500000) (hr : r < nr) : ∀ n : Nat, n ≤ 1000 → (M 3 r).toInt ≤ (itF R A nr nw n M 3 r).toInt ∧ (itF R A nr nw n M 3 r).toInt ≤ (M 3 r).toInt + 50 * n
  | 0, _ => by simp [itF]
  | n + 1, hn => by
    have ih := itF_we (R := R) hA hM hD hr n (by omega)
    have := paF_we (R := R) (od := fun _ => none) hA (itF_ok (R := R) hA hM hD n (by omega)) hr
    simp only [itF]
    omega
theorem momOk.mono {D E : Int} {nr nw : Nat} {M : PC} (h : momOk D nr nw M) (e : D ≤ E) : momOk E nr nw M := ⟨⟨h.1.1, Int.le_trans h.1.2 e⟩, h.2⟩
/-- another purse -/
def setP (M : PC) (r : Nat) (p : Int32) : PC := fun k j => if k = 2 then (if j = r then p else M 2 j) else M k j
theorem setP_ok {D : Int} {nr nw r : Nat} {M : PC} {p : Int32} (h : momOk D nr nw M) (hp : -99 ≤ p.toInt ∧ p.toInt ≤ 99) : momOk D nr nw (setP M r p) := by
  refine ⟨h.1, fun j hj => ⟨(h.2.1 j hj).1, ?_, (h.2.1 j hj).2.2⟩, h.2.2⟩
  simp only [setP, if_true]
  split
  · exact hp
  · exact (h.2.1 j hj).2.1
/-- the trial is set to the town's moment, with another purse -/
theorem MomIs.setP {h h' : AH} {a nr nw r : Nat} {M : PC} {p : Int32} (H : MomIs h a nr nw M) (hr : r < nr) (hr5 : nr ≤ 5) (e : h' = sI h (a + 2) r p) : MomIs h' a nr nw (setP M r p) := by
  subst e
  obtain ⟨H0, ⟨H1, H2, H3⟩, H4⟩ := H
  have eI : ∀ c j, c ≠ a + 2 → hI (sI h (a + 2) r p) c j = hI h c j := fun c j hc => by rw [hI_sI, if_neg hc]
  refine ⟨H0, ⟨?_, fun j hj => ⟨?_, ?_, ?_⟩, fun j hj => ⟨?_, ?_⟩⟩, fun j h1 h2 => ?_⟩
  · show hI (sI h (a + 2) r p) a 0 = M 0 0
    rw [eI _ _ (by omega)]; exact H1
  · show hI (sI h (a + 2) r p) (a + 1) j = M 1 j
    rw [eI _ _ (by omega)]; exact (H2 j hj).1
  · show hI (sI h (a + 2) r p) (a + 2) j = if j = r then p else M 2 j
    rw [hI_sI, if_pos rfl]
    by_cases c : j = r
    · rw [if_pos c, if_pos c]
    · rw [if_neg c, if_neg c]; exact (H2 j hj).2.1
  · show hI (sI h (a + 2) r p) (a + 3) j = M 3 j
    rw [eI _ _ (by omega)]; exact (H2 j hj).2.2
  · show hI (sI h (a + 2) r p) (a + 4) j = M 4 j
    rw [eI _ _ (by omega)]; exact (H3 j hj).1
  · show hI (sI h (a + 2) r p) (a + 5) j = M 5 j
    rw [eI _ _ (by omega)]; exact (H3 j hj).2
  · rw [eI _ _ (by omega)]; exact H4 j h1 h2
theorem rh_loop {d E1 E2 : Nat} {Q : Option Value → AH → Prop} (hd : 10 ≤ d) (f t a ru nr nw r : Nat) (A M : PC) (R : Option (List (List (Nat × Nat) × List (Nat × Nat)))) (W : Int32) (hW : 1 ≤ W.toInt ∧ W.toInt ≤ 9999) (hr : r < nr) (hA : hilOk nr nw A) : ∀ (l : Nat) (N : PC) (h : AH), l ≤ 60 → (∃ D : Int, D + l ≤ 100000 ∧ momOk D nr nw N) → FC h f t a ru nr nw A M R → MomIs h (f + 6) nr nw N → hN h = E1 → hU h = E2 → (∀ h', Fr' h h' (FB f) → Q (some (.int (bI (W ≤ itF R A nr nw l N 3 r)))) h') → Reach d nX2_reaches (27, [.ref f, .int (nI r), .float 0, .float 0, .int W, .int (nI l), .float 0], []) h E1 E2 Q
  | 0, N, h, hl, ⟨D, hD, hN0⟩, H, HN, e1, e2, k => by
    obtain ⟨⟨h0, h1, h2, h3, h4, h5⟩, ⟨c1, c2, c3, c4, c5, c6, c7⟩, d1, d2, d3⟩ := H
    have hr5 := hA.1
    refine wX2_reaches_27 (by omega) f (nI r) W (nI 0) ?_
    have ew : hI h (f + 6 + 3) r = N 3 r := (HN.2.1.2.1 r hr).2.2
    simp only [rt_i, rt_b0, rt_b1, rt_v, rt_l, rt_o, rt_a, rV_none, rI_some, rL_some, rR_some, rT_some, rt_bI, hIf_sL, hIf_sR, hS_sI, hS_sL, hS_sR, hS_cpI, hR_sI, hR_sL, hR_cpI, hL_sI, hL_sR, hL_cpI, hI_sL, hI_sR, hN_sI, hN_sL, hN_sR, hN_cpI, hU_sI, hU_sL, hU_sR, hU_cpI, tn0, tn1, tn2, tn3, tn4, tn5, tn6, tn7, tn8, tn9, tn10, tn11, tn12, tn13, tn14, tn15, tn16, tn17, tn18, tn19, tn20, tn21, tn22, tn23, tn24, tn25, tn26, tn27, tn28, tn29, tn30, tn31, tn32, tn33, tn34, tn35, tn36, tn37, tn38, tn39, tn40, tn41, tn42, tn43, tn44, tn45, tn46, tn47, tn48, tn49, tn50, tn51, tn52, tn53, tn54, tn55, tn56, tn57, tn58, tn59, tn60, lH_eq, true_and, and_true, h0, h1, h2, moq_0 c2, moq_1 c2, moq_2 c2, moq_3 c2, moq_4 c2, moq_5 c2, moq_6 c2, moq_7 c2, moq_8 c2, moq_9 c2, moq_10 c2, vp_in_nI (show r < 5 by omega) (show 5 < 2 ^ 31 by omega), nI_clamp (show r < 2 ^ 31 by omega), ew]
    have kk := k h (Fr'.refl _ _)
    refine ⟨fun _ => ⟨fun z => ?_, fun z => ?_⟩, fun z => absurd (by decide) z⟩
    · rw [bI_f (show ¬ W ≤ itF R A nr nw 0 N 3 r from Int32.not_le.mpr z)] at kk
      exact ⟨e1, e2, kk⟩
    · rw [bI_t (show W ≤ itF R A nr nw 0 N 3 r from i32_le_of z)] at kk
      exact ⟨e1, e2, kk⟩
  | l + 1, N, h, hl, ⟨D, hD, hN0⟩, H, HN, e1, e2, k => by
    have HC := H
    obtain ⟨⟨h0, h1, h2, h3, h4, h5⟩, ⟨c1, c2, c3, c4, c5, c6, c7⟩, d1, d2, d3⟩ := H
    have hr5 := hA.1
    have hw := itF_we (R := R) hA hN0 (by omega) hr (l + 1) (by omega)
    have hw0 := (hN0.2.1 r hr).2.2
    have ew : hI h (f + 6 + 3) r = N 3 r := (HN.2.1.2.1 r hr).2.2
    refine wX2_reaches_27 (by omega) f (nI r) W (nI (l + 1)) ?_
    have ts := t_sub (a := W) (b := N 3 r) (by omega) (by omega)
    have tl : (nI (l + 1) * 50).toInt = (l + 1 : Nat) * 50 := by
      rw [show nI (l + 1) * 50 = nI ((l + 1) * 50) from pk_mul (l + 1) 50, nI_toInt (by omega)]
      omega
    have c0 : (nI (l + 1) ≤ 0) = False := eq_false (nI_nle (by omega) (by omega))
    have hz : (W - N 3 r ≤ 0) = (W.toInt ≤ (N 3 r).toInt) := by rw [Int32.le_iff_toInt_le, ts, t_0]; apply propext; omega
    have hz2 : (0 < W - N 3 r) = ((N 3 r).toInt < W.toInt) := by rw [Int32.lt_iff_toInt_lt, ts, t_0]; apply propext; omega
    have hz3 : (W - N 3 r ≤ nI (l + 1) * 50) = (W.toInt - (N 3 r).toInt ≤ (l + 1 : Nat) * 50) := by rw [Int32.le_iff_toInt_le, ts, tl]
    simp only [rt_i, rt_b0, rt_b1, rt_v, rt_l, rt_o, rt_a, rV_none, rI_some, rL_some, rR_some, rT_some, rt_bI, hIf_sL, hIf_sR, hS_sI, hS_sL, hS_sR, hS_cpI, hR_sI, hR_sL, hR_cpI, hL_sI, hL_sR, hL_cpI, hI_sL, hI_sR, hN_sI, hN_sL, hN_sR, hN_cpI, hU_sI, hU_sL, hU_sR, hU_cpI, tn0, tn1, tn2, tn3, tn4, tn5, tn6, tn7, tn8, tn9, tn10, tn11, tn12, tn13, tn14, tn15, tn16, tn17, tn18, tn19, tn20, tn21, tn22, tn23, tn24, tn25, tn26, tn27, tn28, tn29, tn30, tn31, tn32, tn33, tn34, tn35, tn36, tn37, tn38, tn39, tn40, tn41, tn42, tn43, tn44, tn45, tn46, tn47, tn48, tn49, tn50, tn51, tn52, tn53, tn54, tn55, tn56, tn57, tn58, tn59, tn60, lH_eq, true_and, and_true, h0, h1, h2, h3, h4, h5, twq_0 c3, coq_0 c1, moq_0 c2, moq_1 c2, moq_2 c2, moq_3 c2, moq_4 c2, moq_5 c2, moq_6 c2, moq_7 c2, moq_8 c2, moq_9 c2, moq_10 c2, vp_in_nI (show r < 5 by omega) (show 5 < 2 ^ 31 by omega), nI_clamp (show r < 2 ^ 31 by omega), ew, c0, hz, hz2, hz3]
    have kk := k h (Fr'.refl _ _)
    refine ⟨fun z => z.elim, fun _ => ⟨fun z => ⟨fun y => absurd z (by omega), fun y => ?_⟩, fun z => ⟨fun y => ?_, fun y => ⟨fun x => ?_, fun x => absurd x (by omega)⟩⟩⟩⟩
    · rw [bI_t (by rw [Int32.le_iff_toInt_le]; omega)] at kk
      exact ⟨e1, e2, kk⟩
    · refine fc_pass (by omega) f t a ru nr nw A M N R HC HN (fun h1 v g gf q => ?_)
      simp only [rI_some, nI_m1]
      refine rh_loop hd f t a ru nr nw r A M R W hW hr hA l (paF R A nr nw (fun _ => none) N) h1 (by omega) ⟨D + 1, by omega, paF_ok (by omega) hA hN0⟩ (HC.fr g) q (g.2.2.1.trans e1) (g.2.2.2.1.trans e2) (fun h' g2 => ?_)
      rw [itF_in]
      exact k h' (g.trans g2)
    · rw [bI_f (by rw [Int32.le_iff_toInt_le]; omega)] at kk
      exact ⟨e1, e2, kk⟩
/-- the trial takes the town's moment -/
theorem fc_become {d : Nat} {h : AH} {Q : Option Value → AH → Prop} (hd : 5 ≤ d) (f t a ru nr nw : Nat) (A M : PC) (R : Option (List (List (Nat × Nat) × List (Nat × Nat)))) (H : FC h f t a ru nr nw A M R) (k : ∀ h', Fr' h h' (FB f) → (∀ j, hI h' f j = hI h f j) → FC h' f t a ru nr nw A M R → MomIs h' (f + 6) nr nw M → Q none h') : Calls d nX4_become [.ref (f + 6), .ref (t + 1)] h (hN h) (hU h) Q := by
  have HC := H
  obtain ⟨⟨h0, h1, h2, h3, h4, h5⟩, ⟨c1, c2, c3, c4, c5, c6, c7⟩, d1, d2, d3⟩ := H
  refine sp_become hd (f + 6) (t + 1) c2 c7.1 (mom_dis c2 c7.1 (by omega)) (fun h' g q0 q1 q2 => ?_)
  have g2 := g.mono (T := FB f) (fun c z => by unfold mS at z; unfold FB; omega)
  exact k h' g2 (g.2.2.2.2.1 f (by unfold mS; omega)) (HC.fr g2) (c7.of c4.2.2.2.1 c4.2.2.2.2.1 (c2.fr g) q0 q1 q2)
theorem sp_reaches {d : Nat} {h : AH} {Q : Option Value → AH → Prop} (hd : 11 ≤ d) (f t a ru nr nw r n : Nat) (A M : PC) (R : Option (List (List (Nat × Nat) × List (Nat × Nat)))) (p W : Int32) {D : Int} (hD : D ≤ 50000) (hW : 1 ≤ W.toInt ∧ W.toInt ≤ 9999) (hp : -99 ≤ p.toInt ∧ p.toInt ≤ 99) (hn : n ≤ 60) (hr : r < nr) (hA : hilOk nr nw A) (hM : momOk D nr nw M) (H : FC h f t a ru nr nw A M R) (k : ∀ h', Fr' h h' (FB f) → Q (some (.int (bI (W ≤ itF R A nr nw n (setP M r p) 3 r)))) h') : Calls d nX2_reaches [.ref f, .int (nI r), .int p, .int (nI n), .int W] h (hN h) (hU h) Q := by
  obtain ⟨e, rfl⟩ : ∃ e, d = e + 1 := ⟨d - 1, by omega⟩
  have HC := H
  obtain ⟨⟨h0, h1, h2, h3, h4, h5⟩, ⟨c1, c2, c3, c4, c5, c6, c7⟩, d1, d2, d3⟩ := H
  have hr5 := hA.1
  refine wX2_reaches (by omega) f (nI r) p (nI n) W ?_
  simp only [rt_i, rt_b0, rt_b1, rt_v, rt_l, rt_o, rt_a, rV_none, rI_some, rL_some, rR_some, rT_some, rt_bI, hIf_sL, hIf_sR, hS_sI, hS_sL, hS_sR, hS_cpI, hR_sI, hR_sL, hR_cpI, hL_sI, hL_sR, hL_cpI, hI_sL, hI_sR, hN_sI, hN_sL, hN_sR, hN_cpI, hU_sI, hU_sL, hU_sR, hU_cpI, tn0, tn1, tn2, tn3, tn4, tn5, tn6, tn7, tn8, tn9, tn10, tn11, tn12, tn13, tn14, tn15, tn16, tn17, tn18, tn19, tn20, tn21, tn22, tn23, tn24, tn25, tn26, tn27, tn28, tn29, tn30, tn31, tn32, tn33, tn34, tn35, tn36, tn37, tn38, tn39, tn40, tn41, tn42, tn43, tn44, tn45, tn46, tn47, tn48, tn49, tn50, tn51, tn52, tn53, tn54, tn55, tn56, tn57, tn58, tn59, tn60, lH_eq, true_and, and_true, h0, h1, h2, h3, twq_0 c3, twq_1 c3, twq_2 c3, twq_3 c3, twq_4 c3, twq_5 c3, twq_6 c3, twq_7 c3, twq_8 c3, twq_9 c3, twq_10 c3, moq_0 c2, moq_1 c2, moq_2 c2, moq_3 c2, moq_4 c2, moq_5 c2, moq_6 c2, moq_7 c2, moq_8 c2, moq_9 c2, moq_10 c2]
  refine fc_become (by omega) f t a ru nr nw A M R HC (fun h1' g gf HC1 HM1 => ?_)
  simp only [rV_none, g.1, g.2.1, rt_i, rt_b0, rt_b1, rt_v, rt_l, rt_o, rt_a, rV_none, rI_some, rL_some, rR_some, rT_some, rt_bI, hIf_sL, hIf_sR, hS_sI, hS_sL, hS_sR, hS_cpI, hR_sI, hR_sL, hR_cpI, hL_sI, hL_sR, hL_cpI, hI_sL, hI_sR, hN_sI, hN_sL, hN_sR, hN_cpI, hU_sI, hU_sL, hU_sR, hU_cpI, tn0, tn1, tn2, tn3, tn4, tn5, tn6, tn7, tn8, tn9, tn10, tn11, tn12, tn13, tn14, tn15, tn16, tn17, tn18, tn19, tn20, tn21, tn22, tn23, tn24, tn25, tn26, tn27, tn28, tn29, tn30, tn31, tn32, tn33, tn34, tn35, tn36, tn37, tn38, tn39, tn40, tn41, tn42, tn43, tn44, tn45, tn46, tn47, tn48, tn49, tn50, tn51, tn52, tn53, tn54, tn55, tn56, tn57, tn58, tn59, tn60, lH_eq, true_and, and_true, h0, h1, h2, moq_0 c2, moq_1 c2, moq_2 c2, moq_3 c2, moq_4 c2, moq_5 c2, moq_6 c2, moq_7 c2, moq_8 c2, moq_9 c2, moq_10 c2, vp_in_nI (show r < 5 by omega) (show 5 < 2 ^ 31 by omega), nI_clamp (show r < 2 ^ 31 by omega)]
  have f2 : Fr' h1' (sI h1' (f + 6 + 2) r p) (FB f) := Fr'.sI (by unfold FB; omega)
  exact rh_loop (by omega) f t a ru nr nw r A M R W hW hr hA n (setP M r p) _ hn ⟨D, by omega, setP_ok hM hp⟩ (HC1.fr f2) (HM1.setP hr hr5 rfl) g.2.2.1 g.2.2.2.1 (fun h' g3 => k h' ((g.trans f2).trans g3))

/-! the class's text: words, signs, the next token -/
def offL : List Nat := [0, 7, 12, 18, 24, 28, 34, 41, 46, 51, 58, 64, 68, 73, 77, 80, 84, 87, 91]
def off (k : Nat) : Nat := offL.getD k 0
theorem off_s : ∀ k, k < 18 → off (k + 1) = off k + (wd k).length + 1 ∧ (strB.getD 0 []).getD (off k + (wd k).length) 0 = 32 ∧ off (k + 1) ≤ 91 ∧ (wd k).length ≤ 6 ∧ ∀ c, c < (wd k).length → (strB.getD 0 []).getD (off k + c) 0 = (wd k).getD c 0 ∧ ¬ (wd k).getD c 0 = 32 := by decide
abbrev alW (t : Nat → Int32) (q e k c : Nat) : Prop := ∀ j, j < c → q + j < e ∧ t (q + j) = (wd k).getD j 0
theorem alW_s {t : Nat → Int32} {q e k c : Nat} : alW t q e k (c + 1) ↔ alW t q e k c ∧ q + c < e ∧ t (q + c) = (wd k).getD c 0 := by
  constructor
  · intro h
    exact ⟨fun j hj => h j (by omega), h c (by omega)⟩
  · rintro ⟨h1, h2⟩ j hj
    by_cases c1 : j = c
    · rw [c1]; exact h2
    · exact h1 j (by omega)
theorem twc_loop {d E1 E2 : Nat} {Q : Option Value → AH → Prop} {h : AH} (hd : 4 ≤ d) (b n q e k : Nat) (t : Nat → Int32) (H : TxS h b n t) (hk : k < 18) (he : e ≤ n) (hq : q ≤ e) (e6 : hI h b 6 = nI e) (kk : Reach d nX8_takeWord (61, [.ref b, .int (nI k), .int (nI (q + (wd k).length)), .int (bI (alW t q e k (wd k).length)), .int (nI (off k + (wd k).length)), .float 0], []) h E1 E2 Q) : ∀ m c : Nat, c + m = (wd k).length → Reach d nX8_takeWord (61, [.ref b, .int (nI k), .int (nI (q + c)), .int (bI (alW t q e k c)), .int (nI (off k + c)), .float 0], []) h E1 E2 Q
  | 0, c, hc => by
    have : c = (wd k).length := by omega
    subst this
    exact kk
  | m + 1, c, hc => by
    have ih := twc_loop hd b n q e k t H hk he hq e6 kk m (c + 1) (by omega)
    obtain ⟨o1, o2, o3, o6, o4⟩ := off_s k hk
    obtain ⟨o4, o5⟩ := o4 c (by omega)
    obtain ⟨a1, a2, a3, a4, a5, a6⟩ := H
    have hs : strLen.getD 0 0 = 91 := rfl
    have e91 : Int32.ofNat 91 = nI 91 := rfl
    refine wX8_takeWord_61 hd b (nI k) _ _ _ ?_
    simp only [hs, e91, nI_le_iff (show 91 < 2 ^ 31 by decide) (show off k + c < 2 ^ 31 by omega), vp_in_nI (show off k + c < 91 by omega) (show 91 < 2 ^ 31 by decide), nI_clamp (show off k + c < 2 ^ 31 by omega), nI_clamp (show q + c < 2 ^ 31 by omega), o4, bI0, a1, a2, a3, e6, nI_1, nI_le_iff (show e < 2 ^ 31 by omega) (show q + c < 2 ^ 31 by omega), true_and, true_or]
    have n0 : (0 : Nat) < 19 := by decide
    have i1 : nI (q + c) + 1 = nI (q + (c + 1)) := by rw [nI_1]; rfl
    have no : ¬ alW t q e k (c + 1) → Reach d nX8_takeWord (61, [.ref b, .int (nI k), .int (nI (q + c + 1)), .int 0, .int (nI (off k + c + 1)), .float 0], []) h E1 E2 Q := fun z => by
      rw [bI_f z] at ih
      exact ih
    refine ⟨n0, fun z => absurd z (by omega), fun _ => ⟨n0, fun _ => ⟨fun z => no (fun y => z (alW_s.mp y).1), fun z => ⟨fun y => no (fun x => by have := (alW_s.mp x).2.1; omega), fun y => ⟨vp_in_nI (by omega) (by decide), fun x => no (fun w => ?_), fun x => ?_⟩⟩⟩, fun z => absurd z o5⟩⟩
    · rw [a6 (q + c) (by omega)] at x
      exact x (alW_s.mp w).2.2
    · rw [a6 (q + c) (by omega)] at x
      rw [bI_t (alW_s.mpr ⟨Decidable.not_not.mp z, by omega, x⟩)] at ih
      exact ih
theorem twd_loop {d E1 E2 : Nat} {Q : Option Value → AH → Prop} (hd : 4 ≤ d) (b n q e : Nat) (t : Nat → Int32) (he : e ≤ n) (hq : q ≤ e) : ∀ (m k : Nat) (h : AH), k + m = 18 → TxS h b n t → hI h b 3 = nI q → hI h b 6 = nI e → hI h b 5 = wvF t q e k → hN h = E1 → hU h = E2 → (∀ h', Fr' h h' (fun c => c = b) → (∀ j, j ≠ 5 → hI h' b j = hI h b j) → hI h' b 5 = wvF t q e 18 → Q none h') → Reach d nX8_takeWord (61, [.ref b, .int (nI k), .int (nI q), .int 1, .int (nI (off k)), .float 0], []) h E1 E2 Q
  | 0, k, h, hk, H, e3, e6, e5, n1, n2, kk => by
    have : k = 18 := by omega
    subst this
    refine wX8_takeWord_61 hd b _ _ _ _ ?_
    simp only [rt_i, rt_b0, rt_b1, rt_v, rt_l, rt_o, rt_a, rV_none, rI_some, rL_some, rR_some, rT_some, rt_bI, hIf_sL, hIf_sR, hS_sI, hS_sL, hS_sR, hS_cpI, hR_sI, hR_sL, hR_cpI, hL_sI, hL_sR, hL_cpI, hI_sL, hI_sR, hN_sI, hN_sL, hN_sR, hN_cpI, hU_sI, hU_sL, hU_sR, hU_cpI, tn0, tn1, tn2, tn3, tn4, tn5, tn6, tn7, tn8, tn9, tn10, tn11, tn12, tn13, tn14, tn15, tn16, tn17, tn18, tn19, tn20, tn21, tn22, tn23, tn24, tn25, tn26, tn27, tn28, tn29, tn30, tn31, tn32, tn33, tn34, tn35, tn36, tn37, tn38, tn39, tn40, tn41, tn42, tn43, tn44, tn45, tn46, tn47, tn48, tn49, tn50, tn51, tn52, tn53, tn54, tn55, tn56, tn57, tn58, tn59, tn60, lH_eq, true_and, and_true]
    exact ⟨by decide, fun _ => ⟨n1, n2, kk h (Fr'.refl _ _) (fun _ _ => rfl) e5⟩, fun z => absurd (by decide) z⟩
  | m + 1, k, h, hk, H, e3, e6, e5, n1, n2, kk => by
    obtain ⟨o1, o2, o3, o6, -⟩ := off_s k (by omega)
    have key : ∀ c, Reach d nX8_takeWord (61, [.ref b, .int (nI k), .int (nI (q + (wd k).length)), .int (bI (alW t q e k (wd k).length)), .int (nI (off k + (wd k).length)), .float 0], []) h E1 E2 Q → Reach d nX8_takeWord (61, [.ref b, .int (nI k), .int (nI (q + 0)), .int c, .int (nI (off k + 0)), .float 0], []) h E1 E2 Q ∨ c ≠ bI (alW t q e k 0) := fun c z => by
      by_cases hc : c = bI (alW t q e k 0)
      · left
        rw [hc]
        exact twc_loop hd b n q e k t H (by omega) he hq e6 z (wd k).length 0 (by omega)
      · exact Or.inr hc
    have b0 : (1 : Int32) = bI (alW t q e k 0) := (bI_t (fun j hj => absurd hj (Nat.not_lt_zero j))).symm
    refine (key 1 ?_).resolve_right (fun z => z b0)
    have H0 := H
    obtain ⟨a1, a2, a3, a4, a5, a6⟩ := H
    have hs : strLen.getD 0 0 = 91 := rfl
    have e91 : Int32.ofNat 91 = nI 91 := rfl
    have hw : eqW t q e k ↔ alW t q e k (wd k).length ∧ q + (wd k).length = e := by
      constructor
      · rintro ⟨h1, h2⟩
        exact ⟨fun j hj => ⟨by omega, h2 j hj⟩, h1⟩
      · rintro ⟨h1, h2⟩
        exact ⟨h2, fun j hj => (h1 j hj).2⟩
    have ev : wvF t q e (k + 1) = if eqW t q e k then nI k else wvF t q e k := rfl
    refine wX8_takeWord_61 hd b (nI k) _ _ _ ?_
    simp only [hs, e91, nI_le_iff (show 91 < 2 ^ 31 by decide) (show off k + (wd k).length < 2 ^ 31 by omega), vp_in_nI (show off k + (wd k).length < 91 by omega) (show 91 < 2 ^ 31 by decide), nI_clamp (show off k + (wd k).length < 2 ^ 31 by omega), o2, bI0, a1, e3, e6, nI_1, nI_eq_iff (show q + (wd k).length < 2 ^ 31 by omega) (show e < 2 ^ 31 by omega), true_and, lH_eq, hS_sI, hI_sI, if_true, Nat.reduceEqDiff, if_false]
    have n0 : (0 : Nat) < 19 := by decide
    have ho : off k + (wd k).length + 1 = off (k + 1) := o1.symm
    rw [ho]
    have go := fun (z : ¬ eqW t q e k) => twd_loop hd b n q e t he hq m (k + 1) h (by omega) H0 e3 e6 (by rw [e5, ev, if_neg z]) n1 n2 kk
    refine ⟨n0, fun z => absurd z (by omega), fun _ => ⟨n0, fun z => absurd trivial z, fun _ => ⟨fun z => go (fun y => z (hw.mp y).1), fun z => ⟨fun y => go (fun x => y (hw.mp x).2), fun y => ?_⟩⟩⟩⟩
    have f : Fr' h (sI h b 5 (nI k)) (fun c => c = b) := Fr'.sI rfl
    have g : ∀ j, j ≠ 5 → hI (sI h b 5 (nI k)) b j = hI h b j := fun j hj => by rw [hI_sI, if_pos rfl, if_neg hj]
    exact twd_loop hd b n q e t he hq m (k + 1) _ (by omega) (H0.fr f (g 1 (by decide)) (by omega)) ((g 3 (by decide)).trans e3) ((g 6 (by decide)).trans e6) (by rw [hI_sI, if_pos rfl, if_pos rfl, ev, if_pos (hw.mpr ⟨Decidable.not_not.mp z, y⟩)]) n1 n2 (fun h' f' g' q5 => kk h' (f.trans f') (fun j hj => (g' j hj).trans (g j hj)) q5)
theorem tl_loop {d E1 E2 : Nat} {Q : Option Value → AH → Prop} (hd : 5 ≤ d) (b n q : Nat) (t : Nat → Int32) : ∀ (m p : Nat) (h : AH), p + m = n → q ≤ p → ru isLt t n q = ru isLt t n p → TxS h b n t → hI h b 3 = nI q → hI h b 6 = nI p → hN h = E1 → hU h = E2 → (∀ h', Fr' h h' (fun c => c = b) → (∀ j, j ≠ 5 → j ≠ 6 → hI h' b j = hI h b j) → hI h' b 6 = nI (ru isLt t n q) → hI h' b 5 = wvF t q (ru isLt t n q) 18 → Q none h') → Reach d nX8_takeWord (5, [.ref b, .float 0, .float 0, .float 0, .float 0, .float 0], []) h E1 E2 Q
  | 0, p, h, hp, hq, er, H, e3, e6, n1, n2, k => by
    have H0 := H
    obtain ⟨a1, a2, a3, a4, a5, a6⟩ := H
    rw [ru_end (p := p) (by omega)] at er
    refine wX8_takeWord_5 (by omega) b ?_
    simp only [rt_i, rt_b0, rt_b1, rt_v, rt_l, rt_o, rt_a, rV_none, rI_some, rL_some, rR_some, rT_some, rt_bI, hIf_sL, hIf_sR, hS_sI, hS_sL, hS_sR, hS_cpI, hR_sI, hR_sL, hR_cpI, hL_sI, hL_sR, hL_cpI, hI_sL, hI_sR, hN_sI, hN_sL, hN_sR, hN_cpI, hU_sI, hU_sL, hU_sR, hU_cpI, tn0, tn1, tn2, tn3, tn4, tn5, tn6, tn7, tn8, tn9, tn10, tn11, tn12, tn13, tn14, tn15, tn16, tn17, tn18, tn19, tn20, tn21, tn22, tn23, tn24, tn25, tn26, tn27, tn28, tn29, tn30, tn31, tn32, tn33, tn34, tn35, tn36, tn37, tn38, tn39, tn40, tn41, tn42, tn43, tn44, tn45, tn46, tn47, tn48, tn49, tn50, tn51, tn52, tn53, tn54, tn55, tn56, tn57, tn58, tn59, tn60, lH_eq, true_and, and_true, a1, a4, e6, nI_le_iff (show n < 2 ^ 31 by omega) (show p < 2 ^ 31 by omega), hI_sI, if_true, Nat.reduceEqDiff, if_false, e3]
    refine ⟨fun _ => ?_, fun z => absurd (by omega) z⟩
    have f : Fr' h (sI h b 5 (-1)) (fun c => c = b) := Fr'.sI rfl
    have g : ∀ j, j ≠ 5 → hI (sI h b 5 (-1)) b j = hI h b j := fun j hj => by rw [hI_sI, if_pos rfl, if_neg hj]
    rw [er] at k
    exact twd_loop (by omega) b n q p t (by omega) hq 18 0 _ rfl (H0.fr f (g 1 (by decide)) (by omega)) ((g 3 (by decide)).trans e3) ((g 6 (by decide)).trans e6) (by rw [hI_sI, if_pos rfl, if_pos rfl]; rfl) n1 n2 (fun h' f' g' q5 => k h' (f.trans f') (fun j h5 _ => (g' j h5).trans (g j h5)) ((g' 6 (by decide)).trans ((g 6 (by decide)).trans e6)) q5)
  | m + 1, p, h, hp, hq, er, H, e3, e6, n1, n2, k => by
    have H0 := H
    obtain ⟨a1, a2, a3, a4, a5, a6⟩ := H
    refine wX8_takeWord_5 (by omega) b ?_
    simp only [rt_i, rt_b0, rt_b1, rt_v, rt_l, rt_o, rt_a, rV_none, rI_some, rL_some, rR_some, rT_some, rt_bI, hIf_sL, hIf_sR, hS_sI, hS_sL, hS_sR, hS_cpI, hR_sI, hR_sL, hR_cpI, hL_sI, hL_sR, hL_cpI, hI_sL, hI_sR, hN_sI, hN_sL, hN_sR, hN_cpI, hU_sI, hU_sL, hU_sR, hU_cpI, tn0, tn1, tn2, tn3, tn4, tn5, tn6, tn7, tn8, tn9, tn10, tn11, tn12, tn13, tn14, tn15, tn16, tn17, tn18, tn19, tn20, tn21, tn22, tn23, tn24, tn25, tn26, tn27, tn28, tn29, tn30, tn31, tn32, tn33, tn34, tn35, tn36, tn37, tn38, tn39, tn40, tn41, tn42, tn43, tn44, tn45, tn46, tn47, tn48, tn49, tn50, tn51, tn52, tn53, tn54, tn55, tn56, tn57, tn58, tn59, tn60, lH_eq, true_and, and_true, a1, a2, a3, a4, e6, vp_in_nI (show p < 400 by omega) (show 400 < 2 ^ 31 by omega), nI_clamp (show p < 2 ^ 31 by omega), nI_le_iff (show n < 2 ^ 31 by omega) (show p < 2 ^ 31 by omega), a6 p (by omega), true_or]
    refine ⟨fun z => absurd z (by omega), fun _ => ?_⟩
    refine sp_isLetter (by omega) (t p) ?_
    simp only [rI_some, bI0, a1, e3, e6, true_and, hI_sI, if_true, Nat.reduceEqDiff, if_false, nI_1, rt_i, rt_b0, rt_b1, rt_v, rt_l, rt_o, rt_a, rV_none, rI_some, rL_some, rR_some, rT_some, rt_bI, hIf_sL, hIf_sR, hS_sI, hS_sL, hS_sR, hS_cpI, hR_sI, hR_sL, hR_cpI, hL_sI, hL_sR, hL_cpI, hI_sL, hI_sR, hN_sI, hN_sL, hN_sR, hN_cpI, hU_sI, hU_sL, hU_sR, hU_cpI, tn0, tn1, tn2, tn3, tn4, tn5, tn6, tn7, tn8, tn9, tn10, tn11, tn12, tn13, tn14, tn15, tn16, tn17, tn18, tn19, tn20, tn21, tn22, tn23, tn24, tn25, tn26, tn27, tn28, tn29, tn30, tn31, tn32, tn33, tn34, tn35, tn36, tn37, tn38, tn39, tn40, tn41, tn42, tn43, tn44, tn45, tn46, tn47, tn48, tn49, tn50, tn51, tn52, tn53, tn54, tn55, tn56, tn57, tn58, tn59, tn60, lH_eq, true_and, and_true]
    refine ⟨fun z => ?_, fun z => ?_⟩
    · rw [ru_no (p := p) z] at er
      have f : Fr' h (sI h b 5 (-1)) (fun c => c = b) := Fr'.sI rfl
      have g : ∀ j, j ≠ 5 → hI (sI h b 5 (-1)) b j = hI h b j := fun j hj => by rw [hI_sI, if_pos rfl, if_neg hj]
      rw [er] at k
      exact twd_loop (by omega) b n q p t (by omega) hq 18 0 _ rfl (H0.fr f (g 1 (by decide)) (by omega)) ((g 3 (by decide)).trans e3) ((g 6 (by decide)).trans e6) (by rw [hI_sI, if_pos rfl, if_pos rfl]; rfl) n1 n2 (fun h' f' g' q5 => k h' (f.trans f') (fun j h5 _ => (g' j h5).trans (g j h5)) ((g' 6 (by decide)).trans ((g 6 (by decide)).trans e6)) q5)
    · have z := Decidable.not_not.mp z
      rw [ru_go (p := p) (by omega) z] at er
      have f : Fr' h (sI h b 6 (nI (p + 1))) (fun c => c = b) := Fr'.sI rfl
      have g : ∀ j, j ≠ 6 → hI (sI h b 6 (nI (p + 1))) b j = hI h b j := fun j hj => by rw [hI_sI, if_pos rfl, if_neg hj]
      exact tl_loop hd b n q t m (p + 1) _ (by omega) (by omega) er (H0.fr f (g 1 (by decide)) (by omega)) ((g 3 (by decide)).trans e3) (by rw [hI_sI, if_pos rfl, if_pos rfl]) n1 n2 (fun h' f' g' q6 q5 => k h' (f.trans f') (fun j h5 h6 => (g' j h5 h6).trans (g j h6)) q6 q5)
theorem sp_takeWord {d : Nat} {h : AH} {Q : Option Value → AH → Prop} (hd : 6 ≤ d) (b n q : Nat) (t : Nat → Int32) (H : TxS h b n t) (hq : q < n) (hg : ¬ isDg (t q) = true) (hl : isLt (t q) = true) (e3 : hI h b 3 = nI q) (e6 : hI h b 6 = nI q) (k : ∀ h', Fr' h h' (fun c => c = b) → hI h' b 1 = hI h b 1 → hI h' b 2 = hI h b 2 → TxAt h' b t n q → Q none h') : Calls d nX8_takeWord [.ref b] h (hN h) (hU h) Q := by
  obtain ⟨e, rfl⟩ : ∃ e, d = e + 1 := ⟨d - 1, by omega⟩
  refine wX8_takeWord (by omega) b ?_
  simp only [rt_i, rt_b0, rt_b1, rt_v, rt_l, rt_o, rt_a, rV_none, rI_some, rL_some, rR_some, rT_some, rt_bI, hIf_sL, hIf_sR, hS_sI, hS_sL, hS_sR, hS_cpI, hR_sI, hR_sL, hR_cpI, hL_sI, hL_sR, hL_cpI, hI_sL, hI_sR, hN_sI, hN_sL, hN_sR, hN_cpI, hU_sI, hU_sL, hU_sR, hU_cpI, tn0, tn1, tn2, tn3, tn4, tn5, tn6, tn7, tn8, tn9, tn10, tn11, tn12, tn13, tn14, tn15, tn16, tn17, tn18, tn19, tn20, tn21, tn22, tn23, tn24, tn25, tn26, tn27, tn28, tn29, tn30, tn31, tn32, tn33, tn34, tn35, tn36, tn37, tn38, tn39, tn40, tn41, tn42, tn43, tn44, tn45, tn46, tn47, tn48, tn49, tn50, tn51, tn52, tn53, tn54, tn55, tn56, tn57, tn58, tn59, tn60, lH_eq, true_and, and_true, H.1]
  have f : Fr' h (sI h b 4 2) (fun c => c = b) := Fr'.sI rfl
  have g : ∀ j, j ≠ 4 → hI (sI h b 4 2) b j = hI h b j := fun j h4 => by rw [hI_sI, if_pos rfl, if_neg h4]
  refine tl_loop (by omega) b n q t (n - q) q _ (by omega) (Nat.le_refl _) rfl (H.fr f (g 1 (by decide)) (by omega)) ((g 3 (by decide)).trans e3) ((g 6 (by decide)).trans e6) rfl rfl (fun h' f' g' q6 q5 => k h' (f.trans f') ?_ ?_ ?_)
  · rw [g' 1 (by decide) (by decide)]; exact g 1 (by decide)
  · rw [g' 2 (by decide) (by decide)]; exact g 2 (by decide)
  · have eE : tkE t n q = ru isLt t n q := by unfold tkE; rw [if_neg (by omega), if_neg hg, if_pos hl]
    refine ⟨?_, ?_, fun _ => ?_, ?_⟩
    · rw [g' 3 (by decide) (by decide), g 3 (by decide)]; exact e3
    · rw [g' 4 (by decide) (by decide), hI_sI, if_pos rfl, if_pos rfl]
      unfold tkK
      rw [if_neg (by omega), if_neg hg, if_pos hl]; rfl
    · rw [q5]; unfold tkV; rw [if_neg hg, if_pos hl, eE]
    · rw [q6, eE]
theorem sp_takeSign {d : Nat} {h : AH} {Q : Option Value → AH → Prop} (hd : 6 ≤ d) (b n q : Nat) (t : Nat → Int32) (H : TxS h b n t) (hq : q < n) (hg : ¬ isDg (t q) = true) (hl : ¬ isLt (t q) = true) (e3 : hI h b 3 = nI q) (e6 : hI h b 6 = nI q) (k : ∀ h', Fr' h h' (fun c => c = b) → hI h' b 1 = hI h b 1 → hI h' b 2 = hI h b 2 → TxAt h' b t n q → Q none h') : Calls d nX8_takeSign [.ref b] h (hN h) (hU h) Q := by
  obtain ⟨e, rfl⟩ : ∃ e, d = e + 1 := ⟨d - 1, by omega⟩
  obtain ⟨a1, a2, a3, a4, a5, a6⟩ := H
  have eK : tkK t n q = 3 := by unfold tkK; rw [if_neg (by omega), if_neg hg, if_neg hl]
  have eE : tkE t n q = if isQ2 t n q then q + 2 else q + 1 := by unfold tkE; rw [if_neg (by omega), if_neg hg, if_neg hl]
  have eV : tkV t n q = if isQ2 t n q then (t q &&& 255) + 256 else t q &&& 255 := by unfold tkV; rw [if_neg hg, if_neg hl]
  have f3 : Fr' h (sI (sI (sI h b 4 3) b 5 (t q &&& 255)) b 6 (nI (q + 1))) (fun c => c = b) := ((Fr'.sI (S := fun c => c = b) rfl).trans (Fr'.sI rfl)).trans (Fr'.sI rfl)
  have one : ¬ isQ2 t n q → Q none (sI (sI (sI h b 4 3) b 5 (t q &&& 255)) b 6 (nI (q + 1))) := fun z => by
    refine k _ f3 ?_ ?_ ⟨?_, ?_, fun _ => ?_, ?_⟩
    · simp [hI_sI]
    · simp [hI_sI]
    · rw [← e3]; simp [hI_sI]
    · rw [eK]; simp [hI_sI]; rfl
    · rw [eV, if_neg z]; simp [hI_sI]
    · rw [eE, if_neg z]; simp [hI_sI]
  have two : isQ2 t n q → Q none (sI (sI (sI (sI (sI h b 4 3) b 5 (t q &&& 255)) b 6 (nI (q + 1))) b 5 ((t q &&& 255) + 256)) b 6 (nI (q + 1 + 1))) := fun z => by
    refine k _ ((f3.trans (Fr'.sI rfl)).trans (Fr'.sI rfl)) ?_ ?_ ⟨?_, ?_, fun _ => ?_, ?_⟩
    · simp [hI_sI]
    · simp [hI_sI]
    · rw [← e3]; simp [hI_sI]
    · rw [eK]; simp [hI_sI]; rfl
    · rw [eV, if_pos z]; simp [hI_sI]
    · rw [eE, if_pos z]; simp [hI_sI]
  refine wX8_takeSign (by omega) b ?_
  have hb : (b + 1 = b) = False := eq_false (by omega)
  simp only [rt_i, rt_b0, rt_b1, rt_v, rt_l, rt_o, rt_a, rV_none, rI_some, rL_some, rR_some, rT_some, rt_bI, hIf_sL, hIf_sR, hS_sI, hS_sL, hS_sR, hS_cpI, hR_sI, hR_sL, hR_cpI, hL_sI, hL_sR, hL_cpI, hI_sL, hI_sR, hN_sI, hN_sL, hN_sR, hN_cpI, hU_sI, hU_sL, hU_sR, hU_cpI, tn0, tn1, tn2, tn3, tn4, tn5, tn6, tn7, tn8, tn9, tn10, tn11, tn12, tn13, tn14, tn15, tn16, tn17, tn18, tn19, tn20, tn21, tn22, tn23, tn24, tn25, tn26, tn27, tn28, tn29, tn30, tn31, tn32, tn33, tn34, tn35, tn36, tn37, tn38, tn39, tn40, tn41, tn42, tn43, tn44, tn45, tn46, tn47, tn48, tn49, tn50, tn51, tn52, tn53, tn54, tn55, tn56, tn57, tn58, tn59, tn60, lH_eq, true_and, and_true, a1, a2, a3, a4, e6, hI_sI, hb, if_true, Nat.reduceEqDiff, if_false, vp_in_nI (show q < 400 by omega) (show 400 < 2 ^ 31 by omega), nI_clamp (show q < 2 ^ 31 by omega), a6 q (by omega), nI_1, nI_le_iff (show n < 2 ^ 31 by omega) (show q + 1 < 2 ^ 31 by omega), nI_clamp (show q + 1 < 2 ^ 31 by omega), true_or]
  refine ⟨fun z => ⟨fun y => one (fun x => by have := x.2.1; omega), fun y => ⟨vp_in_nI (by omega) (by decide), fun x => one (fun w => ?_), fun x => two ⟨Or.inl z, by omega, ?_⟩⟩⟩, fun z => ⟨fun y => one (fun x => x.1.elim z y), fun y => ⟨fun x => one (fun w => by have := w.2.1; omega), fun x => ⟨vp_in_nI (by omega) (by decide), fun w => one (fun v => ?_), fun w => two ⟨Or.inr y, by omega, ?_⟩⟩⟩⟩⟩
  · rw [a6 (q + 1) (by omega)] at x; exact x w.2.2
  · rw [a6 (q + 1) (by omega)] at x; exact x
  · rw [a6 (q + 1) (by omega)] at w; exact w v.2.2
  · rw [a6 (q + 1) (by omega)] at w; exact w

/-! the next token -/
def sk (t : Nat → Int32) (n p : Nat) : Nat := ru isSp t n p
theorem isSp_iff (c : Int32) : (isSp c = true) = (c = 32) := propext decide_eq_true_iff
theorem nx_loop {d E1 E2 : Nat} {Q : Option Value → AH → Prop} (hd : 6 ≤ d) (b n : Nat) (t : Nat → Int32) : ∀ (m p : Nat) (h : AH), p + m = n → TxS h b n t → hI h b 6 = nI p → hN h = E1 → hU h = E2 → (∀ h', Fr' h h' (fun c => c = b) → hI h' b 1 = hI h b 1 → hI h' b 2 = hI h b 2 → TxAt h' b t n (sk t n p) → Q none h') → Reach d nX8_next (0, [.ref b], []) h E1 E2 Q
  | 0, p, h, hp, H, e6, n1, n2, k => by
    obtain ⟨a1, a2, a3, a4, a5, a6⟩ := H
    have hb : (b + 1 = b) = False := eq_false (by omega)
    refine wX8_next_0 (by omega) b ?_
    have es : sk t n p = p := ru_end (by omega)
    rw [es] at k
    simp only [rt_i, rt_b0, rt_b1, rt_v, rt_l, rt_o, rt_a, rV_none, rI_some, rL_some, rR_some, rT_some, rt_bI, hIf_sL, hIf_sR, hS_sI, hS_sL, hS_sR, hS_cpI, hR_sI, hR_sL, hR_cpI, hL_sI, hL_sR, hL_cpI, hI_sL, hI_sR, hN_sI, hN_sL, hN_sR, hN_cpI, hU_sI, hU_sL, hU_sR, hU_cpI, tn0, tn1, tn2, tn3, tn4, tn5, tn6, tn7, tn8, tn9, tn10, tn11, tn12, tn13, tn14, tn15, tn16, tn17, tn18, tn19, tn20, tn21, tn22, tn23, tn24, tn25, tn26, tn27, tn28, tn29, tn30, tn31, tn32, tn33, tn34, tn35, tn36, tn37, tn38, tn39, tn40, tn41, tn42, tn43, tn44, tn45, tn46, tn47, tn48, tn49, tn50, tn51, tn52, tn53, tn54, tn55, tn56, tn57, tn58, tn59, tn60, lH_eq, true_and, and_true, a1, a4, e6, hI_sI, if_true, Nat.reduceEqDiff, if_false, nI_le_iff (show n < 2 ^ 31 by omega) (show p < 2 ^ 31 by omega), nI_lt_iff (show p < 2 ^ 31 by omega) (show n < 2 ^ 31 by omega)]
    refine ⟨fun _ => ⟨fun z => absurd z (by omega), fun _ => ⟨n1, n2, k _ ((Fr'.sI (S := fun c => c = b) rfl).trans (Fr'.sI rfl)) (by simp [hI_sI]) (by simp [hI_sI]) ⟨by simp [hI_sI], ?_, fun z => absurd z (by omega), ?_⟩⟩⟩, fun z => absurd (by omega) z⟩
    · rw [hI_sI, if_pos rfl, if_pos rfl]; unfold tkK; rw [if_pos (by omega)]; rfl
    · unfold tkE; rw [if_pos (by omega), ← e6]; simp [hI_sI]
  | m + 1, p, h, hp, H, e6, n1, n2, k => by
    have H0 := H
    obtain ⟨a1, a2, a3, a4, a5, a6⟩ := H
    have hb : (b + 1 = b) = False := eq_false (by omega)
    refine wX8_next_0 (by omega) b ?_
    simp only [rt_i, rt_b0, rt_b1, rt_v, rt_l, rt_o, rt_a, rV_none, rI_some, rL_some, rR_some, rT_some, rt_bI, hIf_sL, hIf_sR, hS_sI, hS_sL, hS_sR, hS_cpI, hR_sI, hR_sL, hR_cpI, hL_sI, hL_sR, hL_cpI, hI_sL, hI_sR, hN_sI, hN_sL, hN_sR, hN_cpI, hU_sI, hU_sL, hU_sR, hU_cpI, tn0, tn1, tn2, tn3, tn4, tn5, tn6, tn7, tn8, tn9, tn10, tn11, tn12, tn13, tn14, tn15, tn16, tn17, tn18, tn19, tn20, tn21, tn22, tn23, tn24, tn25, tn26, tn27, tn28, tn29, tn30, tn31, tn32, tn33, tn34, tn35, tn36, tn37, tn38, tn39, tn40, tn41, tn42, tn43, tn44, tn45, tn46, tn47, tn48, tn49, tn50, tn51, tn52, tn53, tn54, tn55, tn56, tn57, tn58, tn59, tn60, lH_eq, true_and, and_true, a1, a2, a3, a4, e6, hI_sI, hb, if_true, Nat.reduceEqDiff, if_false, vp_in_nI (show p < 400 by omega) (show 400 < 2 ^ 31 by omega), nI_clamp (show p < 2 ^ 31 by omega), nI_le_iff (show n < 2 ^ 31 by omega) (show p < 2 ^ 31 by omega), nI_lt_iff (show p < 2 ^ 31 by omega) (show n < 2 ^ 31 by omega), a6 p (by omega), true_or, nI_1]
    refine ⟨fun z => absurd z (by omega), fun _ => ⟨fun z => ⟨fun _ => ?_, fun y => absurd (by omega) y⟩, fun z => ?_⟩⟩
    · have es : sk t n p = p := ru_no (by rw [isSp_iff]; exact z)
      rw [es] at k
      have f : Fr' h (sI h b 3 (nI p)) (fun c => c = b) := Fr'.sI rfl
      have g : ∀ j, j ≠ 3 → hI (sI h b 3 (nI p)) b j = hI h b j := fun j hj => by rw [hI_sI, if_pos rfl, if_neg hj]
      have H1 : TxS (sI h b 3 (nI p)) b n t := H0.fr f (g 1 (by decide)) (by omega)
      have g3 : hI (sI h b 3 (nI p)) b 3 = nI p := by rw [hI_sI, if_pos rfl, if_pos rfl]
      have g6 : hI (sI h b 3 (nI p)) b 6 = nI p := (g 6 (by decide)).trans e6
      generalize hg : sI h b 3 (nI p) = h1 at *
      have m1 : hN h1 = hN h := f.2.2.1
      have m2 : hU h1 = hU h := f.2.2.2.1
      have kk : ∀ h', Fr' h1 h' (fun c => c = b) → hI h' b 1 = hI h1 b 1 → hI h' b 2 = hI h1 b 2 → TxAt h' b t n p → hN h' = E1 ∧ hU h' = E2 ∧ Q none h' := fun h' f' q1 q2 T => ⟨(f'.2.2.1.trans m1).trans n1, (f'.2.2.2.1.trans m2).trans n2, k h' (f.trans f') (q1.trans (g 1 (by decide))) (q2.trans (g 2 (by decide))) T⟩
      obtain ⟨c1, c2, c3, c4, c5, c6⟩ := H1
      rw [← m1, ← m2]
      refine sp_isDigit (by omega) (t p) ?_
      simp only [rI_some, bI0, c1, c2, c3, g6, vp_in_nI (show p < 400 by omega) (show 400 < 2 ^ 31 by omega), nI_clamp (show p < 2 ^ 31 by omega), c6 p (by omega), true_or, true_and]
      refine ⟨fun y => ?_, fun y => ?_⟩
      · refine sp_isLetter (by omega) (t p) ?_
        simp only [rI_some, bI0, c1, true_and]
        refine ⟨fun x => ?_, fun x => ?_⟩
        · refine sp_takeSign (by omega) b n p t ⟨c1, c2, c3, c4, c5, c6⟩ (by omega) y x g3 g6 (fun h' f' q1 q2 T => ?_)
          rw [rV_none]
          exact kk h' f' q1 q2 T
        · refine sp_takeWord (by omega) b n p t ⟨c1, c2, c3, c4, c5, c6⟩ (by omega) y (Decidable.not_not.mp x) g3 g6 (fun h' f' q1 q2 T => ?_)
          rw [rV_none]
          exact kk h' f' q1 q2 T
      · refine sp_takeNumber (by omega) b n p t ⟨c1, c2, c3, c4, c5, c6⟩ (by omega) (Decidable.not_not.mp y) g3 g6 (fun h' f' q1 q2 T => ?_)
        rw [rV_none]
        exact kk h' f' q1 q2 T
    · have es : sk t n p = sk t n (p + 1) := ru_go (by omega) (by rw [isSp_iff]; exact z)
      rw [es] at k
      have f : Fr' h (sI h b 6 (nI (p + 1))) (fun c => c = b) := Fr'.sI rfl
      have g : ∀ j, j ≠ 6 → hI (sI h b 6 (nI (p + 1))) b j = hI h b j := fun j hj => by rw [hI_sI, if_pos rfl, if_neg hj]
      exact nx_loop hd b n t m (p + 1) _ (by omega) (H0.fr f (g 1 (by decide)) (by omega)) (by rw [hI_sI, if_pos rfl, if_pos rfl]) n1 n2 (fun h' f' q1 q2 T => k h' (f.trans f') (q1.trans (g 1 (by decide))) (q2.trans (g 2 (by decide))) T)
theorem sp_next {d : Nat} {h : AH} {Q : Option Value → AH → Prop} (hd : 7 ≤ d) (b n p : Nat) (t : Nat → Int32) (H : TxS h b n t) (hp : p ≤ n) (e6 : hI h b 6 = nI p) (k : ∀ h', Fr' h h' (fun c => c = b) → hI h' b 1 = hI h b 1 → hI h' b 2 = hI h b 2 → TxAt h' b t n (sk t n p) → Q none h') : Calls d nX8_next [.ref b] h (hN h) (hU h) Q := by
  obtain ⟨e, rfl⟩ : ∃ e, d = e + 1 := ⟨d - 1, by omega⟩
  exact calls_intro (q := (yX8_next, cX8_next, 1, none, 8, 1, 0)) rfl (Nat.le_refl _) (Nat.le_refl _) (Nat.le_of_ble_eq_true rfl) (nx_loop (by omega) b n t (n - p) p h (by omega) H e6 rfl rfl k)
theorem sp_start {d : Nat} {h : AH} {Q : Option Value → AH → Prop} (hd : 8 ≤ d) (b n : Nat) (t : Nat → Int32) (H : TxS h b n t) (k : ∀ h', Fr' h h' (fun c => c = b) → hI h' b 1 = hI h b 1 → hI h' b 2 = 0 → TxAt h' b t n (sk t n 0) → Q none h') : Calls d nX8_start [.ref b] h (hN h) (hU h) Q := by
  obtain ⟨e, rfl⟩ : ∃ e, d = e + 1 := ⟨d - 1, by omega⟩
  refine wX8_start (by omega) b ?_
  have f : Fr' h (sI (sI h b 6 0) b 2 0) (fun c => c = b) := (Fr'.sI (S := fun c => c = b) rfl).trans (Fr'.sI rfl)
  simp only [rt_i, rt_b0, rt_b1, rt_v, rt_l, rt_o, rt_a, rV_none, rI_some, rL_some, rR_some, rT_some, rt_bI, hIf_sL, hIf_sR, hS_sI, hS_sL, hS_sR, hS_cpI, hR_sI, hR_sL, hR_cpI, hL_sI, hL_sR, hL_cpI, hI_sL, hI_sR, hN_sI, hN_sL, hN_sR, hN_cpI, hU_sI, hU_sL, hU_sR, hU_cpI, tn0, tn1, tn2, tn3, tn4, tn5, tn6, tn7, tn8, tn9, tn10, tn11, tn12, tn13, tn14, tn15, tn16, tn17, tn18, tn19, tn20, tn21, tn22, tn23, tn24, tn25, tn26, tn27, tn28, tn29, tn30, tn31, tn32, tn33, tn34, tn35, tn36, tn37, tn38, tn39, tn40, tn41, tn42, tn43, tn44, tn45, tn46, tn47, tn48, tn49, tn50, tn51, tn52, tn53, tn54, tn55, tn56, tn57, tn58, tn59, tn60, lH_eq, true_and, and_true, H.1]
  refine sp_next (h := sI (sI h b 6 0) b 2 0) (by omega) b n 0 t (H.fr f (by simp [hI_sI]) (by omega)) (by omega) (by simp [hI_sI]; rfl) (fun h' f' q1 q2 T => ?_)
  rw [rV_none]
  exact ⟨f'.2.2.1, f'.2.2.2.1, k h' (f.trans f') (q1.trans (by simp [hI_sI])) (q2.trans (by simp [hI_sI])) T⟩
theorem tkK_le (t : Nat → Int32) (n q : Nat) : tkK t n q ≤ 3 := by
  unfold tkK
  split
  · omega
  · split
    · omega
    · split <;> omega
/-- the fault that stands -/
def rfF (fa : Int32) (q c : Nat) : Int32 := if fa = 0 then nI (1 + 8 * q + c) else fa
theorem sp_refuse {d : Nat} {h : AH} {Q : Option Value → AH → Prop} (hd : 5 ≤ d) (b n q c : Nat) (t : Nat → Int32) (H : TxS h b n t) (e3 : hI h b 3 = nI q) (k : ∀ h', Fr' h h' (fun c => c = b) → (∀ j, j ≠ 2 → hI h' b j = hI h b j) → hI h' b 2 = rfF (hI h b 2) q c → Q none h') : Calls d nX8_refuse [.ref b, .int (nI c)] h (hN h) (hU h) Q := by
  obtain ⟨e, rfl⟩ : ∃ e, d = e + 1 := ⟨d - 1, by omega⟩
  have e8 : 1 + 8 * nI q + nI c = nI (1 + 8 * q + c) := by
    rw [show (8 : Int32) = nI 8 from rfl, show (1 : Int32) = nI 1 from rfl, pk_mul, nI_add, nI_add]
  refine wX8_refuse (by omega) b (nI c) ?_
  simp only [rt_i, rt_b0, rt_b1, rt_v, rt_l, rt_o, rt_a, rV_none, rI_some, rL_some, rR_some, rT_some, rt_bI, hIf_sL, hIf_sR, hS_sI, hS_sL, hS_sR, hS_cpI, hR_sI, hR_sL, hR_cpI, hL_sI, hL_sR, hL_cpI, hI_sL, hI_sR, hN_sI, hN_sL, hN_sR, hN_cpI, hU_sI, hU_sL, hU_sR, hU_cpI, tn0, tn1, tn2, tn3, tn4, tn5, tn6, tn7, tn8, tn9, tn10, tn11, tn12, tn13, tn14, tn15, tn16, tn17, tn18, tn19, tn20, tn21, tn22, tn23, tn24, tn25, tn26, tn27, tn28, tn29, tn30, tn31, tn32, tn33, tn34, tn35, tn36, tn37, tn38, tn39, tn40, tn41, tn42, tn43, tn44, tn45, tn46, tn47, tn48, tn49, tn50, tn51, tn52, tn53, tn54, tn55, tn56, tn57, tn58, tn59, tn60, lH_eq, true_and, and_true, H.1, e3, e8]
  refine ⟨fun z => k h (Fr'.refl _ _) (fun _ _ => rfl) (if_neg z).symm, fun z => ?_⟩
  exact k _ (Fr'.sI rfl) (fun j hj => by rw [hI_sI, if_pos rfl, if_neg hj]) (by rw [hI_sI, if_pos rfl, if_pos rfl]; exact (if_pos z).symm)
theorem sp_isWord {d : Nat} {h : AH} {Q : Option Value → AH → Prop} (hd : 5 ≤ d) (b n q w : Nat) (t : Nat → Int32) (hw : w < 18) (H : TxS h b n t) (T : TxAt h b t n q) (k : Q (some (.int (bI (tkK t n q = 2 ∧ eqW t q (tkE t n q) w)))) h) : Calls d nX8_isWord [.ref b, .int (nI w)] h (hN h) (hU h) Q := by
  obtain ⟨e, rfl⟩ : ∃ e, d = e + 1 := ⟨d - 1, by omega⟩
  obtain ⟨t1, t2, t3, t4⟩ := T
  refine wX8_isWord (by omega) b (nI w) ?_
  have hK := tkK_le t n q
  have h2 : ((nI (tkK t n q)) = (2 : Int32)) = (tkK t n q = 2) := nI_eq_iff (b := 2) (by omega) (by decide)
  simp only [rt_i, rt_b0, rt_b1, rt_v, rt_l, rt_o, rt_a, rV_none, rI_some, rL_some, rR_some, rT_some, rt_bI, hIf_sL, hIf_sR, hS_sI, hS_sL, hS_sR, hS_cpI, hR_sI, hR_sL, hR_cpI, hL_sI, hL_sR, hL_cpI, hI_sL, hI_sR, hN_sI, hN_sL, hN_sR, hN_cpI, hU_sI, hU_sL, hU_sR, hU_cpI, tn0, tn1, tn2, tn3, tn4, tn5, tn6, tn7, tn8, tn9, tn10, tn11, tn12, tn13, tn14, tn15, tn16, tn17, tn18, tn19, tn20, tn21, tn22, tn23, tn24, tn25, tn26, tn27, tn28, tn29, tn30, tn31, tn32, tn33, tn34, tn35, tn36, tn37, tn38, tn39, tn40, tn41, tn42, tn43, tn44, tn45, tn46, tn47, tn48, tn49, tn50, tn51, tn52, tn53, tn54, tn55, tn56, tn57, tn58, tn59, tn60, lH_eq, true_and, and_true, H.1, t2, h2]
  refine ⟨fun z => by rwa [bI_f (fun y => z y.1)] at k, fun z => ?_⟩
  have hq : q < n := by
    by_cases c : n ≤ q
    · unfold tkK at z; rw [if_pos c] at z; cases z
    · omega
  have hg : ¬ isDg (t q) = true := fun c => by unfold tkK at z; rw [if_neg (by omega), if_pos c] at z; cases z
  have hl : isLt (t q) = true := by
    by_cases c : isLt (t q) = true
    · exact c
    · unfold tkK at z; rw [if_neg (by omega), if_neg hg, if_neg c] at z; cases z
  have ev : tkV t n q = wvF t q (tkE t n q) 18 := by unfold tkV; rw [if_neg hg, if_pos hl]
  rw [t3 hq, ev, wv_iff hw]
  exact ⟨fun y => by rwa [bI_f (fun x => y x.2)] at k, fun y => by rwa [bI_t ⟨z, y⟩] at k⟩
theorem sp_isSign {d : Nat} {h : AH} {Q : Option Value → AH → Prop} (hd : 5 ≤ d) (b n q : Nat) (c : Int32) (t : Nat → Int32) (H : TxS h b n t) (T : TxAt h b t n q) (k : Q (some (.int (bI (tkK t n q = 3 ∧ tkV t n q = c)))) h) : Calls d nX8_isSign [.ref b, .int c] h (hN h) (hU h) Q := by
  obtain ⟨e, rfl⟩ : ∃ e, d = e + 1 := ⟨d - 1, by omega⟩
  obtain ⟨t1, t2, t3, t4⟩ := T
  refine wX8_isSign (by omega) b c ?_
  have hK := tkK_le t n q
  have h2 : ((nI (tkK t n q)) = (3 : Int32)) = (tkK t n q = 3) := nI_eq_iff (b := 3) (by omega) (by decide)
  simp only [rt_i, rt_b0, rt_b1, rt_v, rt_l, rt_o, rt_a, rV_none, rI_some, rL_some, rR_some, rT_some, rt_bI, hIf_sL, hIf_sR, hS_sI, hS_sL, hS_sR, hS_cpI, hR_sI, hR_sL, hR_cpI, hL_sI, hL_sR, hL_cpI, hI_sL, hI_sR, hN_sI, hN_sL, hN_sR, hN_cpI, hU_sI, hU_sL, hU_sR, hU_cpI, tn0, tn1, tn2, tn3, tn4, tn5, tn6, tn7, tn8, tn9, tn10, tn11, tn12, tn13, tn14, tn15, tn16, tn17, tn18, tn19, tn20, tn21, tn22, tn23, tn24, tn25, tn26, tn27, tn28, tn29, tn30, tn31, tn32, tn33, tn34, tn35, tn36, tn37, tn38, tn39, tn40, tn41, tn42, tn43, tn44, tn45, tn46, tn47, tn48, tn49, tn50, tn51, tn52, tn53, tn54, tn55, tn56, tn57, tn58, tn59, tn60, lH_eq, true_and, and_true, H.1, t2, h2]
  refine ⟨fun z => by rwa [bI_f (fun y => z y.1)] at k, fun z => ?_⟩
  have hq : q < n := by
    by_cases c : n ≤ q
    · unfold tkK at z; rw [if_pos c] at z; cases z
    · omega
  rw [t3 hq]
  exact ⟨fun y => by rwa [bI_f (fun x => y x.2)] at k, fun y => by rwa [bI_t ⟨z, y⟩] at k⟩
/-- the fault of a number that must come -/
def nbF (t : Nat → Int32) (n q : Nat) (lo hi : Int32) (fa : Int32) : Int32 := if tkK t n q = 1 then (if lo ≤ tkV t n q ∧ tkV t n q ≤ hi then fa else rfF fa q 1) else rfF fa q 0
theorem sp_number {d : Nat} {h : AH} {Q : Option Value → AH → Prop} (hd : 8 ≤ d) (b n q : Nat) (lo hi : Int32) (t : Nat → Int32) (hq : q ≤ n) (H : TxS h b n t) (T : TxAt h b t n q) (k : ∀ h' v, Fr' h h' (fun c => c = b) → hI h' b 1 = hI h b 1 → hI h' b 2 = nbF t n q lo hi (hI h b 2) → TxAt h' b t n (sk t n (tkE t n q)) → (tkK t n q = 1 → v = tkV t n q) → Q (some (.int v)) h') : Calls d nX8_number [.ref b, .int lo, .int hi] h (hN h) (hU h) Q := by
  obtain ⟨e, rfl⟩ : ∃ e, d = e + 1 := ⟨d - 1, by omega⟩
  have T0 := T
  obtain ⟨t1, t2, t3, t4⟩ := T
  have hK := tkK_le t n q
  have h2 : ((nI (tkK t n q)) = (1 : Int32)) = (tkK t n q = 1) := nI_eq_iff (b := 1) (by omega) (by decide)
  have hE := tkE_le (t := t) hq
  have hq1 : tkK t n q = 1 → hI h b 5 = tkV t n q := fun z => t3 (by
    by_cases c : n ≤ q
    · unfold tkK at z; rw [if_pos c] at z; cases z
    · omega)
  have bad : ∀ c, c < 2 → nbF t n q lo hi (hI h b 2) = rfF (hI h b 2) q c → Calls e nX8_refuse [.ref b, .int (nI c)] h (hN h) (hU h) (fun r2 h1 => rV r2 ((hS h1 b).1 = 10 + 8 ∧ Calls e nX8_next [.ref b] h1 (hN h1) (hU h1) (fun r4 h3 => rV r4 (hN h3 = hN h ∧ hU h3 = hU h ∧ Q (some (.int (hI h b 5))) h3)))) := fun c _ ec => by
    refine sp_refuse (by omega) b n q c t H t1 (fun h1 f1 g1 g2 => ?_)
    have H1 : TxS h1 b n t := H.fr f1 (g1 1 (by decide)) (by omega)
    rw [rV_none]
    refine ⟨by rw [H1.1], ?_⟩
    refine sp_next (by omega) b n (tkE t n q) t H1 hE.2 ((g1 6 (by decide)).trans t4) (fun h' f' q1 q2 T' => ?_)
    rw [rV_none]
    exact ⟨f'.2.2.1.trans f1.2.2.1, f'.2.2.2.1.trans f1.2.2.2.1, k h' _ (f1.trans f') (q1.trans (g1 1 (by decide))) (by rw [q2, g2, ec]) T' hq1⟩
  refine wX8_number (by omega) b lo hi ?_
  simp only [rt_i, rt_b0, rt_b1, rt_v, rt_l, rt_o, rt_a, rV_none, rI_some, rL_some, rR_some, rT_some, rt_bI, hIf_sL, hIf_sR, hS_sI, hS_sL, hS_sR, hS_cpI, hR_sI, hR_sL, hR_cpI, hL_sI, hL_sR, hL_cpI, hI_sL, hI_sR, hN_sI, hN_sL, hN_sR, hN_cpI, hU_sI, hU_sL, hU_sR, hU_cpI, tn0, tn1, tn2, tn3, tn4, tn5, tn6, tn7, tn8, tn9, tn10, tn11, tn12, tn13, tn14, tn15, tn16, tn17, tn18, tn19, tn20, tn21, tn22, tn23, tn24, tn25, tn26, tn27, tn28, tn29, tn30, tn31, tn32, tn33, tn34, tn35, tn36, tn37, tn38, tn39, tn40, tn41, tn42, tn43, tn44, tn45, tn46, tn47, tn48, tn49, tn50, tn51, tn52, tn53, tn54, tn55, tn56, tn57, tn58, tn59, tn60, lH_eq, true_and, and_true, H.1, t2, h2]
  refine ⟨fun z => ⟨fun y => ?_, fun y => ⟨fun x => ?_, fun x => ?_⟩⟩, fun z => ?_⟩
  · rw [hq1 z] at y
    exact bad 1 (by decide) (by unfold nbF; rw [if_pos z, if_neg (fun c => absurd y (Int32.not_lt.mpr c.1))])
  · refine sp_next (by omega) b n (tkE t n q) t H hE.2 t4 (fun h' f' q1 q2 T' => ?_)
    rw [rV_none]
    refine ⟨f'.2.2.1, f'.2.2.2.1, k h' _ f' q1 ?_ T' hq1⟩
    rw [hq1 z] at x y
    rw [q2]
    unfold nbF
    rw [if_pos z, if_pos ⟨Int32.not_lt.mp y, x⟩]
  · rw [hq1 z] at x
    exact bad 1 (by decide) (by unfold nbF; rw [if_pos z, if_neg (fun c => x c.2)])
  · exact bad 0 (by decide) (by unfold nbF; rw [if_neg z])

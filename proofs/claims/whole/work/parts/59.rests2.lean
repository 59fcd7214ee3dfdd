theorem wt_outer {d E1 E2 : Nat} {Q : Option Value → AH → Prop} (hd : 10 ≤ d) (g t a ru nr nw one other : Nat) (A M : PC) (R : Option (List (List (Nat × Nat) × List (Nat × Nat)))) (h1 : one < nr) (h2 : other < nr) (hno : one ≠ other) (h0 : AH) (e1 : hN h0 = E1) (e2 : hU h0 = E2) (k : ∀ h', Fr' h0 h' (GB g) → (∀ q, q < 5 → hI h' (g + 2) q = -2) → WT h' g nw (mrB A (M 0 0)) (w1F R A nr nw M one other) (w2F R A nr nw M one other) (nw + 1) 0 → Q none h') : ∀ (n i : Nat) (h : AH), i + n = nw + 1 → CC h g t a ru nr nw A M R → Fr' h0 h (GB g) → (∀ q, q < 5 → q ≠ one → q ≠ other → hI h (g + 2) q = -2) → WT h g nw (mrB A (M 0 0)) (w1F R A nr nw M one other) (w2F R A nr nw M one other) i 0 → Reach d nX0_weighTwos (2, [.ref g, .int (nI one), .int (nI other), .int (cI i), .float 0], []) h E1 E2 Q
  | 0, i, h, hi, H, f0, ho, HW => by
    have : i = nw + 1 := by omega
    subst this
    have b1 := H.2.2.1.2.1.2.2.2.1
    have b2 := H.2.2.1.2.1.2.2.2.2.1
    have cN := H.2.1.1
    obtain ⟨⟨g0, g1, -, -, -, -, -, -, -, g9, -, g11⟩, -, ⟨x1, x2, -, -⟩, -⟩ := H
    refine wX0_weighTwos_2 (by omega) g (nI one) (nI other) (cI (nw + 1)) ?_
    simp only [rt_i, rt_b0, rt_b1, rt_v, rt_l, rt_o, rt_a, rV_none, rI_some, rL_some, rR_some, rT_some, rt_bI, hIf_sL, hIf_sR, hS_sI, hS_sL, hS_sR, hS_cpI, hR_sI, hR_sL, hR_cpI, hL_sI, hL_sR, hL_cpI, hI_sL, hI_sR, hN_sI, hN_sL, hN_sR, hN_cpI, hU_sI, hU_sL, hU_sR, hU_cpI, tn0, tn1, tn2, tn3, tn4, tn5, tn6, tn7, tn8, tn9, tn10, tn11, tn12, tn13, tn14, tn15, tn16, tn17, tn18, tn19, tn20, tn21, tn22, tn23, tn24, tn25, tn26, tn27, tn28, tn29, tn30, tn31, tn32, tn33, tn34, tn35, tn36, tn37, tn38, tn39, tn40, tn41, tn42, tn43, tn44, tn45, tn46, tn47, tn48, tn49, tn50, tn51, tn52, tn53, tn54, tn55, tn56, tn57, tn58, tn59, tn60, lH_eq, true_and, and_true, g0, g1, g9, g11, twq_0 x1, hiq_0 x2.1, x2.2.2.1, coq_0 cN, coq_1 cN, coq_2 cN, coq_3 cN, coq_4 cN, coq_5 cN, coq_6 cN, coq_7 cN, coq_8 cN, vp_in_nI (show one < 5 by omega) (show 5 < 2 ^ 31 by omega), nI_clamp (show one < 2 ^ 31 by omega), vp_in_nI (show other < 5 by omega) (show 5 < 2 ^ 31 by omega), nI_clamp (show other < 2 ^ 31 by omega), cI_ge (show nw + 1 < 1000 by omega) (show nw < 1000 by omega)]
    refine ⟨fun _ => ?_, fun z => absurd (Nat.lt_succ_self nw) z⟩
    have f2 : Fr' h (sI (sI h (g + 1 + 1) one (-2)) (g + 1 + 1) other (-2)) (fun c => c = g + 2) := (Fr'.sI (S := fun c => c = g + 2) (by omega)).trans (Fr'.sI (by omega))
    have fA := f0.trans (f2.mono (T := GB g) (fun c z => by unfold GB; omega))
    refine ⟨fA.2.2.1.trans e1, fA.2.2.2.1.trans e2, k _ fA (fun q hq => ?_) (fun a b c1 c2 c3 c4 c5 => ?_)⟩
    · simp only [hI_sI, show (g + 2 = g + 1 + 1) = True from eq_true (by omega), if_true]
      by_cases c : q = other
      · rw [if_pos c]
      · rw [if_neg c]
        by_cases c2 : q = one
        · rw [if_pos c2]
        · rw [if_neg c2]; exact ho q hq c2 c
    · rw [f2.2.2.2.2.1 (g + 27 + a) (by omega), f2.2.2.2.2.1 (g + 35 + a) (by omega)]
      exact HW a b c1 c2 c3 c4 c5
  | n + 1, i, h, hi, H, f0, ho, HW => by
    have HC := H
    have b2 := H.2.2.1.2.1.2.2.2.2.1
    obtain ⟨⟨g0, g1, -, -, -, -, -, -, -, g9, -, g11⟩, -, ⟨x1, x2, -, -⟩, -⟩ := H
    refine wX0_weighTwos_2 (by omega) g (nI one) (nI other) (cI i) ?_
    simp only [rt_i, rt_b0, rt_b1, rt_v, rt_l, rt_o, rt_a, rV_none, rI_some, rL_some, rR_some, rT_some, rt_bI, hIf_sL, hIf_sR, hS_sI, hS_sL, hS_sR, hS_cpI, hR_sI, hR_sL, hR_cpI, hL_sI, hL_sR, hL_cpI, hI_sL, hI_sR, hN_sI, hN_sL, hN_sR, hN_cpI, hU_sI, hU_sL, hU_sR, hU_cpI, tn0, tn1, tn2, tn3, tn4, tn5, tn6, tn7, tn8, tn9, tn10, tn11, tn12, tn13, tn14, tn15, tn16, tn17, tn18, tn19, tn20, tn21, tn22, tn23, tn24, tn25, tn26, tn27, tn28, tn29, tn30, tn31, tn32, tn33, tn34, tn35, tn36, tn37, tn38, tn39, tn40, tn41, tn42, tn43, tn44, tn45, tn46, tn47, tn48, tn49, tn50, tn51, tn52, tn53, tn54, tn55, tn56, tn57, tn58, tn59, tn60, lH_eq, true_and, and_true, g0, g1, g9, g11, twq_0 x1, hiq_0 x2.1, x2.2.2.1, cI_ge (show i < 1000 by omega) (show nw < 1000 by omega)]
    refine ⟨fun z => absurd z (by omega), fun _ => ?_⟩
    rw [show (-1 : Int32) = cI 0 from cI_0.symm]
    refine wt_inner hd g t a ru nr nw one other i A M R h1 h2 hno (by omega) h (fun h' f q1 q2 => ?_) (nw + 1) 0 h (by omega) HC (Fr'.refl _ _) ho HW
    exact wt_outer hd g t a ru nr nw one other A M R h1 h2 hno h0 e1 e2 k n (i + 1) h' (by omega) (HC.fr f) (f0.trans f) q1 q2
theorem sp_weighTwos {d : Nat} {h : AH} {Q : Option Value → AH → Prop} (hd : 11 ≤ d) (g t a ru nr nw one other : Nat) (A M : PC) (R : Option (List (List (Nat × Nat) × List (Nat × Nat)))) (h1 : one < nr) (h2 : other < nr) (hno : one ≠ other) (H : CC h g t a ru nr nw A M R) (ho : ∀ q, q < 5 → hI h (g + 2) q = -2) (k : ∀ h', Fr' h h' (GB g) → (∀ q, q < 5 → hI h' (g + 2) q = -2) → WT h' g nw (mrB A (M 0 0)) (w1F R A nr nw M one other) (w2F R A nr nw M one other) (nw + 1) 0 → Q none h') : Calls d nX0_weighTwos [.ref g, .int (nI one), .int (nI other)] h (hN h) (hU h) Q := by
  obtain ⟨e, rfl⟩ : ∃ e, d = e + 1 := ⟨d - 1, by omega⟩
  refine wX0_weighTwos (by omega) g (nI one) (nI other) ?_
  rw [show (-1 : Int32) = cI 0 from cI_0.symm]
  exact wt_outer (by omega) g t a ru nr nw one other A M R h1 h2 hno h rfl rfl k (nw + 1) 0 h (by omega) H (Fr'.refl _ _) (fun q a _ _ => ho q a) (fun a b c => absurd c (by omega))
theorem m7_t {A : PC} {day : Int32} {nw k : Nat} (h : k ≤ nw) : m7 A day nw k = mrB A day k := by simp [m7, h]
theorem m7_f {A : PC} {day : Int32} {nw k : Nat} (h : nw < k) : m7 A day nw k = false := by simp [m7]; omega
theorem ir_loop {d E1 E2 : Nat} {Q : Option Value → AH → Prop} {h : AH} (hd : 6 ≤ d) (g t a ru nr nw i j : Nat) (A M : PC) (R : Option (List (List (Nat × Nat) × List (Nat × Nat)))) (w1 w2 : Nat → Nat → Int32) (hi : i ≤ nw) (hj : j ≤ nw) (H : CC h g t a ru nr nw A M R) (HW : WT h g nw (mrB A (M 0 0)) w1 w2 (nw + 1) 0) (mi : mrB A (M 0 0) i = true) (mj : mrB A (M 0 0) j = true) (e1 : hN h = E1) (e2 : hU h = E2) (k : Q (some (.int (bI (rsB (m7 A (M 0 0) nw) w1 w2 i j 7 0 = true)))) h) : ∀ (n l : Nat), l + n = nw + 1 → rsB (m7 A (M 0 0) nw) w1 w2 i j 7 0 = rsB (m7 A (M 0 0) nw) w1 w2 i j (7 - l) l → Reach d nX0_isRest (3, [.ref g, .int (cI i), .int (cI j), .int (M 0 0), .int (cI l)], []) h E1 E2 Q
  | 0, l, hl, he => by
    have : l = nw + 1 := by omega
    subst this
    have b2 := H.2.2.1.2.1.2.2.2.2.1
    obtain ⟨⟨g0, g1, -, -, -, -, -, -, -, g9, -, g11⟩, -, ⟨x1, x2, -, -⟩, -⟩ := H
    refine wX0_isRest_3 (by omega) g (cI i) (cI j) (M 0 0) (cI (nw + 1)) ?_
    simp only [rt_i, rt_b0, rt_b1, rt_v, rt_l, rt_o, rt_a, rV_none, rI_some, rL_some, rR_some, rT_some, rt_bI, hIf_sL, hIf_sR, hS_sI, hS_sL, hS_sR, hS_cpI, hR_sI, hR_sL, hR_cpI, hL_sI, hL_sR, hL_cpI, hI_sL, hI_sR, hN_sI, hN_sL, hN_sR, hN_cpI, hU_sI, hU_sL, hU_sR, hU_cpI, tn0, tn1, tn2, tn3, tn4, tn5, tn6, tn7, tn8, tn9, tn10, tn11, tn12, tn13, tn14, tn15, tn16, tn17, tn18, tn19, tn20, tn21, tn22, tn23, tn24, tn25, tn26, tn27, tn28, tn29, tn30, tn31, tn32, tn33, tn34, tn35, tn36, tn37, tn38, tn39, tn40, tn41, tn42, tn43, tn44, tn45, tn46, tn47, tn48, tn49, tn50, tn51, tn52, tn53, tn54, tn55, tn56, tn57, tn58, tn59, tn60, lH_eq, true_and, and_true, g0, g9, g11, twq_0 x1, hiq_0 x2.1, x2.2.2.1, cI_ge (show nw + 1 < 1000 by omega) (show nw < 1000 by omega)]
    refine ⟨fun _ => ?_, fun z => absurd (Nat.lt_succ_self nw) z⟩
    rw [he, rsB_end _ _ (fun x hx => m7_f (by omega)), bI_t rfl] at k
    exact ⟨e1, e2, k⟩
  | n + 1, l, hl, he => by
    have HC := H
    have b2 := H.2.2.1.2.1.2.2.2.2.1
    obtain ⟨⟨g0, g1, g2, g3, g4, g5, g6, g7, g8, g9, g10, g11⟩, ⟨c1, c2, c3, c4, c5, c6, c7, c8, c9, c10⟩, ⟨x1, x2, x3, x4⟩, d1, d2, d3⟩ := H
    have ih := ir_loop hd g t a ru nr nw i j A M R w1 w2 hi hj HC HW mi mj e1 e2 k n (l + 1) (by omega)
    have hs : rsB (m7 A (M 0 0) nw) w1 w2 i j (7 - l) l = if m7 A (M 0 0) nw l = true ∧ (w1 i j < w1 l j ∨ w2 i j < w2 i l) then false else rsB (m7 A (M 0 0) nw) w1 w2 i j (7 - (l + 1)) (l + 1) := by
      rw [show 7 - l = 7 - (l + 1) + 1 by omega]; rfl
    rw [hs, m7_t (show l ≤ nw by omega)] at he
    refine wX0_isRest_3 (by omega) g (cI i) (cI j) (M 0 0) (cI l) ?_
    simp only [rt_i, rt_b0, rt_b1, rt_v, rt_l, rt_o, rt_a, rV_none, rI_some, rL_some, rR_some, rT_some, rt_bI, hIf_sL, hIf_sR, hS_sI, hS_sL, hS_sR, hS_cpI, hR_sI, hR_sL, hR_cpI, hL_sI, hL_sR, hL_cpI, hI_sL, hI_sR, hN_sI, hN_sL, hN_sR, hN_cpI, hU_sI, hU_sL, hU_sR, hU_cpI, tn0, tn1, tn2, tn3, tn4, tn5, tn6, tn7, tn8, tn9, tn10, tn11, tn12, tn13, tn14, tn15, tn16, tn17, tn18, tn19, tn20, tn21, tn22, tn23, tn24, tn25, tn26, tn27, tn28, tn29, tn30, tn31, tn32, tn33, tn34, tn35, tn36, tn37, tn38, tn39, tn40, tn41, tn42, tn43, tn44, tn45, tn46, tn47, tn48, tn49, tn50, tn51, tn52, tn53, tn54, tn55, tn56, tn57, tn58, tn59, tn60, lH_eq, true_and, and_true, g0, g9, g11, twq_0 x1, hiq_0 x2.1, x2.2.2.1, cI_ge (show l < 1000 by omega) (show nw < 1000 by omega)]
    refine ⟨fun z => absurd z (by omega), fun _ => ?_⟩
    refine sp_mayRunFor (by omega) g t a ru nr nw l A M R (M 0 0) HC (by omega) ?_
    have hij := HW i j (by omega) hi hj mi mj
    simp only [rI_some, bI0, rt_i, rt_b0, rt_b1, rt_v, rt_l, rt_o, rt_a, rV_none, rI_some, rL_some, rR_some, rT_some, rt_bI, hIf_sL, hIf_sR, hS_sI, hS_sL, hS_sR, hS_cpI, hR_sI, hR_sL, hR_cpI, hL_sI, hL_sR, hL_cpI, hI_sL, hI_sR, hN_sI, hN_sL, hN_sR, hN_cpI, hU_sI, hU_sL, hU_sR, hU_cpI, tn0, tn1, tn2, tn3, tn4, tn5, tn6, tn7, tn8, tn9, tn10, tn11, tn12, tn13, tn14, tn15, tn16, tn17, tn18, tn19, tn20, tn21, tn22, tn23, tn24, tn25, tn26, tn27, tn28, tn29, tn30, tn31, tn32, tn33, tn34, tn35, tn36, tn37, tn38, tn39, tn40, tn41, tn42, tn43, tn44, tn45, tn46, tn47, tn48, tn49, tn50, tn51, tn52, tn53, tn54, tn55, tn56, tn57, tn58, tn59, tn60, lH_eq, true_and, and_true, g0, g7, g8, c7, c8, cI_1, vp_in_nI (show l < 7 by omega) (show 7 < 2 ^ 31 by omega), nI_clamp (show l < 2 ^ 31 by omega), vp_in_nI (show i < 7 by omega) (show 7 < 2 ^ 31 by omega), nI_clamp (show i < 2 ^ 31 by omega), vp_in_nI (show j < 7 by omega) (show 7 < 2 ^ 31 by omega), nI_clamp (show j < 2 ^ 31 by omega), (c9 l (by omega)).1, (c9 l (by omega)).2, (c9 i (by omega)).1, (c9 i (by omega)).2, (c10 i (by omega)).1, (c10 i (by omega)).2, hij.1, hij.2]
    rw [cI_s] at ih
    refine ⟨fun z => ?_, fun z => ?_⟩
    · rw [if_neg (fun y => z y.1)] at he
      exact ih he
    · have z := Decidable.not_not.mp z
      have hlj := (HW l j (by omega) (by omega) hj z mj).1
      have hil := (HW i l (by omega) hi (by omega) mi z).2
      rw [hlj, hil]
      refine ⟨by decide, by decide, by decide, by decide, fun y => ?_, fun y => ⟨by decide, by decide, by decide, by decide, fun x => ?_, fun x => ?_⟩⟩
      · rw [if_pos ⟨z, Or.inl y⟩] at he
        rw [he, bI_f (by decide)] at k
        exact ⟨e1, e2, k⟩
      · rw [if_neg (fun v => v.2.elim y (fun v => absurd v (Int32.not_lt.mpr x)))] at he
        exact ih he
      · rw [if_pos ⟨z, Or.inr (i32_lt_of x)⟩] at he
        rw [he, bI_f (by decide)] at k
        exact ⟨e1, e2, k⟩
theorem sp_isRest {d : Nat} {h : AH} {Q : Option Value → AH → Prop} (hd : 7 ≤ d) (g t a ru nr nw i j : Nat) (A M : PC) (R : Option (List (List (Nat × Nat) × List (Nat × Nat)))) (w1 w2 : Nat → Nat → Int32) (hi : i ≤ nw) (hj : j ≤ nw) (H : CC h g t a ru nr nw A M R) (HW : WT h g nw (mrB A (M 0 0)) w1 w2 (nw + 1) 0) (mi : mrB A (M 0 0) i = true) (mj : mrB A (M 0 0) j = true) (k : Q (some (.int (bI (rsB (m7 A (M 0 0) nw) w1 w2 i j 7 0 = true)))) h) : Calls d nX0_isRest [.ref g, .int (cI i), .int (cI j), .int (M 0 0)] h (hN h) (hU h) Q := by
  obtain ⟨e, rfl⟩ : ∃ e, d = e + 1 := ⟨d - 1, by omega⟩
  refine wX0_isRest (by omega) g (cI i) (cI j) (M 0 0) ?_
  rw [show (-1 : Int32) = cI 0 from cI_0.symm]
  exact ir_loop (by omega) g t a ru nr nw i j A M R w1 w2 hi hj H HW mi mj rfl rfl k (nw + 1) 0 (by omega) rfl
theorem ctF_skip {g : Nat → Bool} (a : Nat) : ∀ n, (∀ j, a ≤ j → j < a + n → g j = false) → ctF g (a + n) = ctF g a
  | 0, _ => rfl
  | n + 1, h => by
    show (if g (a + n) = true then ctF g (a + n) + 1 else ctF g (a + n)) = ctF g a
    rw [h (a + n) (by omega) (by omega)]
    exact ctF_skip a n (fun j h1 h2 => h j h1 (by omega))
theorem foF_skip {g : Nat → Bool} : ∀ (n m a : Nat), (∀ j, a ≤ j → j < a + n → g j = false) → foF g (n + m) a = foF g m (a + n)
  | 0, m, a, _ => by simp
  | n + 1, m, a, h => by
    have e : n + 1 + m = n + m + 1 := by omega
    rw [e]
    show (if g a = true then some a else foF g (n + m) (a + 1)) = _
    rw [h a (by omega) (by omega)]
    have := foF_skip n m (a + 1) (fun j h1 h2 => h j (by omega) (by omega))
    rw [show a + (n + 1) = a + 1 + n by omega]
    exact this
def rtV (wh : Int32) (o : Option Nat) : Int32 := match o with
  | none => -2
  | some q => if wh = 1 then cI (q / 7) else cI (q % 7)
theorem p7_at {m : Nat → Bool} {w1 w2 : Nat → Nat → Int32} {i j : Nat} (hj : j < 7) : p7 m w1 w2 (7 * i + j) = (m i && m j && rsB m w1 w2 i j 7 0) := by
  unfold p7
  rw [show (7 * i + j) / 7 = i by omega, show (7 * i + j) % 7 = j by omega]
theorem rt_inner {d E1 E2 : Nat} {Q : Option Value → AH → Prop} {h : AH} (hd : 7 ≤ d) (g t a ru nr nw i : Nat) (A M : PC) (R : Option (List (List (Nat × Nat) × List (Nat × Nat)))) (w1 w2 : Nat → Nat → Int32) (wh : Int32) (hi : i ≤ nw) (H : CC h g t a ru nr nw A M R) (HW : WT h g nw (mrB A (M 0 0)) w1 w2 (nw + 1) 0) (e1 : hN h = E1) (e2 : hU h = E2) (k1 : wh ≠ 0 → Q (some (.int (rtV wh (foF (p7 (m7 A (M 0 0) nw) w1 w2) 49 0)))) h) (k2 : (wh ≠ 0 → foF (p7 (m7 A (M 0 0) nw) w1 w2) 49 0 = foF (p7 (m7 A (M 0 0) nw) w1 w2) (49 - 7 * (i + 1)) (7 * (i + 1))) → Reach d nX0_restsOfTwo (24, [.ref g, .float 0, .float 0, .int wh, .int (M 0 0), .int (if wh = 0 then nI (ctF (p7 (m7 A (M 0 0) nw) w1 w2) (7 * (i + 1))) else 0), .int (cI (i + 1)), .float 0], []) h E1 E2 Q) : ∀ (n j : Nat), j + n = nw + 1 → (wh ≠ 0 → foF (p7 (m7 A (M 0 0) nw) w1 w2) 49 0 = foF (p7 (m7 A (M 0 0) nw) w1 w2) (49 - (7 * i + j)) (7 * i + j)) → Reach d nX0_restsOfTwo (42, [.ref g, .float 0, .float 0, .int wh, .int (M 0 0), .int (if wh = 0 then nI (ctF (p7 (m7 A (M 0 0) nw) w1 w2) (7 * i + j)) else 0), .int (cI i), .int (cI j)], []) h E1 E2 Q
  | 0, j, hj, he => by
    have : j = nw + 1 := by omega
    subst this
    have b2 := H.2.2.1.2.1.2.2.2.2.1
    obtain ⟨⟨g0, g1, -, -, -, -, -, -, -, g9, -, g11⟩, -, ⟨x1, x2, -, -⟩, -⟩ := H
    refine wX0_restsOfTwo_42 (by omega) g wh (M 0 0) _ (cI i) (cI (nw + 1)) ?_
    simp only [rt_i, rt_b0, rt_b1, rt_v, rt_l, rt_o, rt_a, rV_none, rI_some, rL_some, rR_some, rT_some, rt_bI, hIf_sL, hIf_sR, hS_sI, hS_sL, hS_sR, hS_cpI, hR_sI, hR_sL, hR_cpI, hL_sI, hL_sR, hL_cpI, hI_sL, hI_sR, hN_sI, hN_sL, hN_sR, hN_cpI, hU_sI, hU_sL, hU_sR, hU_cpI, tn0, tn1, tn2, tn3, tn4, tn5, tn6, tn7, tn8, tn9, tn10, tn11, tn12, tn13, tn14, tn15, tn16, tn17, tn18, tn19, tn20, tn21, tn22, tn23, tn24, tn25, tn26, tn27, tn28, tn29, tn30, tn31, tn32, tn33, tn34, tn35, tn36, tn37, tn38, tn39, tn40, tn41, tn42, tn43, tn44, tn45, tn46, tn47, tn48, tn49, tn50, tn51, tn52, tn53, tn54, tn55, tn56, tn57, tn58, tn59, tn60, lH_eq, true_and, and_true, g0, g9, g11, twq_0 x1, hiq_0 x2.1, x2.2.2.1, cI_ge (show nw + 1 < 1000 by omega) (show nw < 1000 by omega), cI_up]
    refine ⟨fun _ => ?_, fun z => absurd (Nat.lt_succ_self nw) z⟩
    have hz : ∀ x, 7 * i + (nw + 1) ≤ x → x < 7 * i + (nw + 1) + (6 - nw) → p7 (m7 A (M 0 0) nw) w1 w2 x = false := fun x h1 h2 => by
      obtain ⟨y, hy⟩ : ∃ y, x = 7 * i + y := ⟨x - 7 * i, by omega⟩
      subst hy
      rw [p7_at (by omega), m7_f (k := y) (by omega)]
      simp
    have ec := ctF_skip (7 * i + (nw + 1)) (6 - nw) hz
    rw [show 7 * i + (nw + 1) + (6 - nw) = 7 * (i + 1) by omega] at ec
    rw [ec] at k2
    refine k2 (fun z => ?_)
    rw [he z, show 49 - (7 * i + (nw + 1)) = (6 - nw) + (49 - 7 * (i + 1)) by omega, foF_skip (6 - nw) _ _ hz, show 7 * i + (nw + 1) + (6 - nw) = 7 * (i + 1) by omega]
  | n + 1, j, hj, he => by
    have HC := H
    have b2 := H.2.2.1.2.1.2.2.2.2.1
    obtain ⟨⟨g0, g1, -, -, -, -, -, -, -, g9, -, g11⟩, -, ⟨x1, x2, -, -⟩, -⟩ := H
    have hp := p7_at (m := m7 A (M 0 0) nw) (w1 := w1) (w2 := w2) (i := i) (j := j) (by omega)
    rw [m7_t hi, m7_t (show j ≤ nw by omega)] at hp
    have ec : ctF (p7 (m7 A (M 0 0) nw) w1 w2) (7 * i + (j + 1)) = if p7 (m7 A (M 0 0) nw) w1 w2 (7 * i + j) = true then ctF (p7 (m7 A (M 0 0) nw) w1 w2) (7 * i + j) + 1 else ctF (p7 (m7 A (M 0 0) nw) w1 w2) (7 * i + j) := rfl
    have ef : foF (p7 (m7 A (M 0 0) nw) w1 w2) (49 - (7 * i + j)) (7 * i + j) = if p7 (m7 A (M 0 0) nw) w1 w2 (7 * i + j) = true then some (7 * i + j) else foF (p7 (m7 A (M 0 0) nw) w1 w2) (49 - (7 * i + (j + 1))) (7 * i + (j + 1)) := by
      rw [show 49 - (7 * i + j) = 49 - (7 * i + (j + 1)) + 1 by omega]; rfl
    have ih := rt_inner hd g t a ru nr nw i A M R w1 w2 wh hi HC HW e1 e2 k1 k2 n (j + 1) (by omega)
    have no : ¬ p7 (m7 A (M 0 0) nw) w1 w2 (7 * i + j) = true → Reach d nX0_restsOfTwo (42, [.ref g, .float 0, .float 0, .int wh, .int (M 0 0), .int (if wh = 0 then nI (ctF (p7 (m7 A (M 0 0) nw) w1 w2) (7 * i + j)) else 0), .int (cI i), .int (cI j + 1)], []) h E1 E2 Q := fun z => by
      rw [if_neg z] at ec ef
      rw [ec] at ih
      rw [cI_up]
      exact ih (fun y => by rw [he y, ef])
    refine wX0_restsOfTwo_42 (by omega) g wh (M 0 0) _ (cI i) (cI j) ?_
    simp only [rt_i, rt_b0, rt_b1, rt_v, rt_l, rt_o, rt_a, rV_none, rI_some, rL_some, rR_some, rT_some, rt_bI, hIf_sL, hIf_sR, hS_sI, hS_sL, hS_sR, hS_cpI, hR_sI, hR_sL, hR_cpI, hL_sI, hL_sR, hL_cpI, hI_sL, hI_sR, hN_sI, hN_sL, hN_sR, hN_cpI, hU_sI, hU_sL, hU_sR, hU_cpI, tn0, tn1, tn2, tn3, tn4, tn5, tn6, tn7, tn8, tn9, tn10, tn11, tn12, tn13, tn14, tn15, tn16, tn17, tn18, tn19, tn20, tn21, tn22, tn23, tn24, tn25, tn26, tn27, tn28, tn29, tn30, tn31, tn32, tn33, tn34, tn35, tn36, tn37, tn38, tn39, tn40, tn41, tn42, tn43, tn44, tn45, tn46, tn47, tn48, tn49, tn50, tn51, tn52, tn53, tn54, tn55, tn56, tn57, tn58, tn59, tn60, lH_eq, true_and, and_true, g0, g9, g11, twq_0 x1, hiq_0 x2.1, x2.2.2.1, cI_ge (show j < 1000 by omega) (show nw < 1000 by omega)]
    refine ⟨fun z => absurd z (by omega), fun _ => ?_⟩
    refine sp_mayRunFor (by omega) g t a ru nr nw i A M R (M 0 0) HC hi ?_
    simp only [rI_some, bI0, g0, true_and]
    refine ⟨fun z => no (by rw [hp]; simp [z]), fun z1 => ?_⟩
    refine sp_mayRunFor (by omega) g t a ru nr nw j A M R (M 0 0) HC (by omega) ?_
    simp only [rI_some, bI0, g0, true_and]
    refine ⟨fun z => no (by rw [hp]; simp [z]), fun z2 => ?_⟩
    have z1 := Decidable.not_not.mp z1
    have z2 := Decidable.not_not.mp z2
    refine sp_isRest (by omega) g t a ru nr nw i j A M R w1 w2 hi (by omega) HC HW z1 z2 ?_
    simp only [rI_some, bI0, rt_i, rt_b0, rt_b1, rt_v, rt_l, rt_o, rt_a, rV_none, rI_some, rL_some, rR_some, rT_some, rt_bI, hIf_sL, hIf_sR, hS_sI, hS_sL, hS_sR, hS_cpI, hR_sI, hR_sL, hR_cpI, hL_sI, hL_sR, hL_cpI, hI_sL, hI_sR, hN_sI, hN_sL, hN_sR, hN_cpI, hU_sI, hU_sL, hU_sR, hU_cpI, tn0, tn1, tn2, tn3, tn4, tn5, tn6, tn7, tn8, tn9, tn10, tn11, tn12, tn13, tn14, tn15, tn16, tn17, tn18, tn19, tn20, tn21, tn22, tn23, tn24, tn25, tn26, tn27, tn28, tn29, tn30, tn31, tn32, tn33, tn34, tn35, tn36, tn37, tn38, tn39, tn40, tn41, tn42, tn43, tn44, tn45, tn46, tn47, tn48, tn49, tn50, tn51, tn52, tn53, tn54, tn55, tn56, tn57, tn58, tn59, tn60, lH_eq, true_and, and_true]
    refine ⟨fun z => no (by rw [hp]; simp [z]), fun z3 => ?_⟩
    have z3 := Decidable.not_not.mp z3
    have hp1 : p7 (m7 A (M 0 0) nw) w1 w2 (7 * i + j) = true := by rw [hp]; simp [z1, z2, z3]
    rw [if_pos hp1] at ec ef
    refine ⟨fun y => ?_, fun y => ?_⟩
    · rw [ec, if_pos y, ← nI_1] at ih
      rw [if_pos y, cI_up]
      exact ih (fun x => absurd y x)
    · have kk := k1 y
      rw [he y, ef] at kk
      simp only [rtV, show (7 * i + j) / 7 = i by omega, show (7 * i + j) % 7 = j by omega] at kk
      refine ⟨fun x => ?_, fun x => ?_⟩
      · rw [if_neg x] at kk; exact ⟨e1, e2, kk⟩
      · rw [if_pos x] at kk; exact ⟨e1, e2, kk⟩
theorem rt_outer {d E1 E2 : Nat} {Q : Option Value → AH → Prop} {h : AH} (hd : 7 ≤ d) (g t a ru nr nw : Nat) (A M : PC) (R : Option (List (List (Nat × Nat) × List (Nat × Nat)))) (w1 w2 : Nat → Nat → Int32) (wh : Int32) (H : CC h g t a ru nr nw A M R) (HW : WT h g nw (mrB A (M 0 0)) w1 w2 (nw + 1) 0) (e1 : hN h = E1) (e2 : hU h = E2) (k0 : wh = 0 → Q (some (.int (nI (ctF (p7 (m7 A (M 0 0) nw) w1 w2) 49)))) h) (k1 : wh ≠ 0 → Q (some (.int (rtV wh (foF (p7 (m7 A (M 0 0) nw) w1 w2) 49 0)))) h) : ∀ (n i : Nat), i + n = nw + 1 → (wh ≠ 0 → foF (p7 (m7 A (M 0 0) nw) w1 w2) 49 0 = foF (p7 (m7 A (M 0 0) nw) w1 w2) (49 - 7 * i) (7 * i)) → Reach d nX0_restsOfTwo (24, [.ref g, .float 0, .float 0, .int wh, .int (M 0 0), .int (if wh = 0 then nI (ctF (p7 (m7 A (M 0 0) nw) w1 w2) (7 * i)) else 0), .int (cI i), .float 0], []) h E1 E2 Q
  | 0, i, hi, he => by
    have : i = nw + 1 := by omega
    subst this
    have b2 := H.2.2.1.2.1.2.2.2.2.1
    obtain ⟨⟨g0, g1, -, -, -, -, -, -, -, g9, -, g11⟩, -, ⟨x1, x2, -, -⟩, -⟩ := H
    refine wX0_restsOfTwo_24 (by omega) g wh (M 0 0) _ (cI (nw + 1)) ?_
    simp only [rt_i, rt_b0, rt_b1, rt_v, rt_l, rt_o, rt_a, rV_none, rI_some, rL_some, rR_some, rT_some, rt_bI, hIf_sL, hIf_sR, hS_sI, hS_sL, hS_sR, hS_cpI, hR_sI, hR_sL, hR_cpI, hL_sI, hL_sR, hL_cpI, hI_sL, hI_sR, hN_sI, hN_sL, hN_sR, hN_cpI, hU_sI, hU_sL, hU_sR, hU_cpI, tn0, tn1, tn2, tn3, tn4, tn5, tn6, tn7, tn8, tn9, tn10, tn11, tn12, tn13, tn14, tn15, tn16, tn17, tn18, tn19, tn20, tn21, tn22, tn23, tn24, tn25, tn26, tn27, tn28, tn29, tn30, tn31, tn32, tn33, tn34, tn35, tn36, tn37, tn38, tn39, tn40, tn41, tn42, tn43, tn44, tn45, tn46, tn47, tn48, tn49, tn50, tn51, tn52, tn53, tn54, tn55, tn56, tn57, tn58, tn59, tn60, lH_eq, true_and, and_true, g0, g9, g11, twq_0 x1, hiq_0 x2.1, x2.2.2.1, cI_ge (show nw + 1 < 1000 by omega) (show nw < 1000 by omega)]
    have hz : ∀ x, 7 * (nw + 1) ≤ x → p7 (m7 A (M 0 0) nw) w1 w2 x = false := fun x h1 => by
      unfold p7
      rw [m7_f (k := x / 7) (by omega)]
      simp
    refine ⟨fun _ => ⟨fun z => ?_, fun z => ?_⟩, fun z => absurd (Nat.lt_succ_self nw) z⟩
    · have := k1 z
      rw [he z, foF_none _ _ hz] at this
      exact ⟨e1, e2, this⟩
    · have := k0 z
      rw [show 49 = 7 * (nw + 1) + (49 - 7 * (nw + 1)) by omega, ctF_skip _ _ (fun x h1 _ => hz x h1)] at this
      rw [if_pos z]
      exact ⟨e1, e2, this⟩
  | n + 1, i, hi, he => by
    have HC := H
    have b2 := H.2.2.1.2.1.2.2.2.2.1
    obtain ⟨⟨g0, g1, -, -, -, -, -, -, -, g9, -, g11⟩, -, ⟨x1, x2, -, -⟩, -⟩ := H
    refine wX0_restsOfTwo_24 (by omega) g wh (M 0 0) _ (cI i) ?_
    simp only [rt_i, rt_b0, rt_b1, rt_v, rt_l, rt_o, rt_a, rV_none, rI_some, rL_some, rR_some, rT_some, rt_bI, hIf_sL, hIf_sR, hS_sI, hS_sL, hS_sR, hS_cpI, hR_sI, hR_sL, hR_cpI, hL_sI, hL_sR, hL_cpI, hI_sL, hI_sR, hN_sI, hN_sL, hN_sR, hN_cpI, hU_sI, hU_sL, hU_sR, hU_cpI, tn0, tn1, tn2, tn3, tn4, tn5, tn6, tn7, tn8, tn9, tn10, tn11, tn12, tn13, tn14, tn15, tn16, tn17, tn18, tn19, tn20, tn21, tn22, tn23, tn24, tn25, tn26, tn27, tn28, tn29, tn30, tn31, tn32, tn33, tn34, tn35, tn36, tn37, tn38, tn39, tn40, tn41, tn42, tn43, tn44, tn45, tn46, tn47, tn48, tn49, tn50, tn51, tn52, tn53, tn54, tn55, tn56, tn57, tn58, tn59, tn60, lH_eq, true_and, and_true, g0, g9, g11, twq_0 x1, hiq_0 x2.1, x2.2.2.1, cI_ge (show i < 1000 by omega) (show nw < 1000 by omega)]
    refine ⟨fun z => absurd z (by omega), fun _ => ?_⟩
    rw [show (-1 : Int32) = cI 0 from cI_0.symm]
    exact rt_inner hd g t a ru nr nw i A M R w1 w2 wh (by omega) HC HW e1 e2 k1 (fun q => rt_outer hd g t a ru nr nw A M R w1 w2 wh HC HW e1 e2 k0 k1 n (i + 1) (by omega) q) (nw + 1) 0 (by omega) he
theorem sp_restsOfTwo {d : Nat} {h : AH} {Q : Option Value → AH → Prop} (hd : 12 ≤ d) (g t a ru nr nw one other : Nat) (A M : PC) (R : Option (List (List (Nat × Nat) × List (Nat × Nat)))) (wh : Int32) (h1 : one < nr) (h2 : other < nr) (hno : one ≠ other) (H : CC h g t a ru nr nw A M R) (ho : ∀ q, q < 5 → hI h (g + 2) q = -2) (k : ∀ h', Fr' h h' (GB g) → (∀ q, q < 5 → hI h' (g + 2) q = -2) → Q (some (.int (if wh = 0 then nI (ctF (p7 (m7 A (M 0 0) nw) (w1F R A nr nw M one other) (w2F R A nr nw M one other)) 49) else rtV wh (foF (p7 (m7 A (M 0 0) nw) (w1F R A nr nw M one other) (w2F R A nr nw M one other)) 49 0)))) h') : Calls d nX0_restsOfTwo [.ref g, .int (nI one), .int (nI other), .int wh] h (hN h) (hU h) Q := by
  obtain ⟨e, rfl⟩ : ∃ e, d = e + 1 := ⟨d - 1, by omega⟩
  have HC := H
  obtain ⟨⟨g0, g1, -, -, -, -, -, -, -, g9, -, g11⟩, -, ⟨x1, x2, -, x4⟩, -⟩ := H
  refine wX0_restsOfTwo (by omega) g (nI one) (nI other) wh ?_
  simp only [rt_i, rt_b0, rt_b1, rt_v, rt_l, rt_o, rt_a, rV_none, rI_some, rL_some, rR_some, rT_some, rt_bI, hIf_sL, hIf_sR, hS_sI, hS_sL, hS_sR, hS_cpI, hR_sI, hR_sL, hR_cpI, hL_sI, hL_sR, hL_cpI, hI_sL, hI_sR, hN_sI, hN_sL, hN_sR, hN_cpI, hU_sI, hU_sL, hU_sR, hU_cpI, tn0, tn1, tn2, tn3, tn4, tn5, tn6, tn7, tn8, tn9, tn10, tn11, tn12, tn13, tn14, tn15, tn16, tn17, tn18, tn19, tn20, tn21, tn22, tn23, tn24, tn25, tn26, tn27, tn28, tn29, tn30, tn31, tn32, tn33, tn34, tn35, tn36, tn37, tn38, tn39, tn40, tn41, tn42, tn43, tn44, tn45, tn46, tn47, tn48, tn49, tn50, tn51, tn52, tn53, tn54, tn55, tn56, tn57, tn58, tn59, tn60, lH_eq, true_and, and_true, g0]
  refine sp_weighTwos (by omega) g t a ru nr nw one other A M R h1 h2 hno HC ho (fun h' f q1 q2 => ?_)
  have HC' := HC.fr f
  have ed : hI h' (t + 1) 0 = M 0 0 := HC'.2.2.1.2.2.2.2.1.1
  simp only [rV_none, f.1, f.2.1, g0, g9, twq_0 x1, twq_1 x1, twq_2 x1, twq_3 x1, twq_4 x1, twq_5 x1, twq_6 x1, twq_7 x1, twq_8 x1, twq_9 x1, twq_10 x1, ed, true_and]
  rw [show (-1 : Int32) = cI 0 from cI_0.symm]
  have := rt_outer (E1 := hN h) (E2 := hU h) (Q := Q) (d := e) (by omega) g t a ru nr nw A M R _ _ wh HC' q2 f.2.2.1 f.2.2.2.1 (fun z => by have := k h' f q1; rwa [if_pos z] at this) (fun z => by have := k h' f q1; rwa [if_neg z] at this) (nw + 1) 0 (by omega) (fun _ => rfl)
  have e0 : (if wh = 0 then nI (ctF (p7 (m7 A (M 0 0) nw) (w1F R A nr nw M one other) (w2F R A nr nw M one other)) (7 * 0)) else 0) = 0 := by split <;> rfl
  rw [e0] at this
  exact this

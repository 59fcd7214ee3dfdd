/-! rests of two -/
def htF (N M : PC) (r : Nat) : Int32 := 2 * (N 3 r - M 3 r) + N 2 r
def od2 (one other i j : Nat) : Nat → Option Int32 := fun q => if q = other then some (cI j) else if q = one then some (cI i) else none
noncomputable def w1F (R : Option (List (List (Nat × Nat) × List (Nat × Nat)))) (A : PC) (nr nw : Nat) (M : PC) (one other i j : Nat) : Int32 := htF (paF R A nr nw (od2 one other i j) M) M one
noncomputable def w2F (R : Option (List (List (Nat × Nat) × List (Nat × Nat)))) (A : PC) (nr nw : Nat) (M : PC) (one other i j : Nat) : Int32 := htF (paF R A nr nw (od2 one other i j) M) M other
def m7 (A : PC) (day : Int32) (nw k : Nat) : Bool := decide (k ≤ nw) && mrB A day k
def rsB (m : Nat → Bool) (w1 w2 : Nat → Nat → Int32) (i j : Nat) : Nat → Nat → Bool
  | 0, _ => true
  | n + 1, k => if m k = true ∧ (w1 i j < w1 k j ∨ w2 i j < w2 i k) then false else rsB m w1 w2 i j n (k + 1)
theorem rsB_end {m : Nat → Bool} {w1 w2 : Nat → Nat → Int32} {i j : Nat} : ∀ (n k : Nat), (∀ l, k ≤ l → m l = false) → rsB m w1 w2 i j n k = true
  | 0, _, _ => rfl
  | n + 1, k, h => by
    simp only [rsB, h k (Nat.le_refl k)]
    exact rsB_end n (k + 1) (fun l hl => h l (by omega))
def p7 (m : Nat → Bool) (w1 w2 : Nat → Nat → Int32) (q : Nat) : Bool := m (q / 7) && m (q % 7) && rsB m w1 w2 (q / 7) (q % 7) 7 0
theorem sp_hasThen {d : Nat} {h : AH} {Q : Option Value → AH → Prop} (hd : 5 ≤ d) (g t a ru nr nw r : Nat) (A M N : PC) (R : Option (List (List (Nat × Nat) × List (Nat × Nat)))) (hr : r < nr) (H : CC h g t a ru nr nw A M R) (HN : MomIs h (g + 6) nr nw N) (k : Q (some (.int (htF N M r))) h) : Calls d nX0_hasThen [.ref g, .int (nI r)] h (hN h) (hU h) Q := by
  obtain ⟨e, rfl⟩ : ∃ e, d = e + 1 := ⟨d - 1, by omega⟩
  obtain ⟨⟨h0, h1, h2, h3, h4, h5, h6, h7, h8, h9, h10, h11⟩, ⟨c1, c2, c3, c4, c5, c6, c7, c8, c9, c10⟩, ⟨x1, x2, x3, x4⟩, d1, d2, d3⟩ := H
  have b1 := x2.2.2.2.1
  have p1 : hI h (g + 6 + 3) r = N 3 r := (HN.2.1.2.1 r hr).2.2
  have p2 : hI h (g + 6 + 2) r = N 2 r := (HN.2.1.2.1 r hr).2.1
  have p3 : hI h (t + 1 + 3) r = M 3 r := (x4.2.1.2.1 r hr).2.2
  refine wX0_hasThen (by omega) g (nI r) ?_
  simp only [rt_i, rt_b0, rt_b1, rt_v, rt_l, rt_o, rt_a, rV_none, rI_some, rL_some, rR_some, rT_some, rt_bI, hIf_sL, hIf_sR, hS_sI, hS_sL, hS_sR, hS_cpI, hR_sI, hR_sL, hR_cpI, hL_sI, hL_sR, hL_cpI, hI_sL, hI_sR, hN_sI, hN_sL, hN_sR, hN_cpI, hU_sI, hU_sL, hU_sR, hU_cpI, tn0, tn1, tn2, tn3, tn4, tn5, tn6, tn7, tn8, tn9, tn10, tn11, tn12, tn13, tn14, tn15, tn16, tn17, tn18, tn19, tn20, tn21, tn22, tn23, tn24, tn25, tn26, tn27, tn28, tn29, tn30, tn31, tn32, tn33, tn34, tn35, tn36, tn37, tn38, tn39, tn40, tn41, tn42, tn43, tn44, tn45, tn46, tn47, tn48, tn49, tn50, tn51, tn52, tn53, tn54, tn55, tn56, tn57, tn58, tn59, tn60, lH_eq, true_and, and_true, h0, h2, h9, twq_0 x1, twq_1 x1, twq_2 x1, twq_3 x1, twq_4 x1, twq_5 x1, twq_6 x1, twq_7 x1, twq_8 x1, twq_9 x1, twq_10 x1, moq_0 c2, moq_1 c2, moq_2 c2, moq_3 c2, moq_4 c2, moq_5 c2, moq_6 c2, moq_7 c2, moq_8 c2, moq_9 c2, moq_10 c2, moq_0 x1.mom, moq_1 x1.mom, moq_2 x1.mom, moq_3 x1.mom, moq_4 x1.mom, moq_5 x1.mom, moq_6 x1.mom, moq_7 x1.mom, moq_8 x1.mom, moq_9 x1.mom, moq_10 x1.mom, vp_in_nI (show r < 5 by omega) (show 5 < 2 ^ 31 by omega), nI_clamp (show r < 2 ^ 31 by omega), p1, p2, p3]
  exact k
/-- what is laid of the tables of two -/
def WT (h : AH) (g nw : Nat) (m : Nat → Bool) (w1 w2 : Nat → Nat → Int32) (ci cj : Nat) : Prop := ∀ i j, (i < ci ∨ (i = ci ∧ j < cj)) → i ≤ nw → j ≤ nw → m i = true → m j = true → hI h (g + 27 + i) j = w1 i j ∧ hI h (g + 35 + i) j = w2 i j
theorem cc_pass2 {d : Nat} {h : AH} {Q : Option Value → AH → Prop} (hd : 10 ≤ d) (g t a ru nr nw one other i j : Nat) (A M N : PC) (R : Option (List (List (Nat × Nat) × List (Nat × Nat)))) (H : CC h g t a ru nr nw A M R) (HN : MomIs h (g + 6) nr nw N) (hi : i < 1000) (hj : j < 1000) (hno : one ≠ other) (ho : ∀ q, q < nr → q ≠ one → q ≠ other → hI h (g + 2) q = -2) (ho1 : hI h (g + 2) one = cI i) (ho2 : hI h (g + 2) other = cI j) (k : ∀ h' v, Fr' h h' (fun c => (g + 3 ≤ c ∧ c ≤ g + 5) ∨ mS (g + 6) c) → MomIs h' (g + 6) nr nw (paF R A nr nw (od2 one other i j) N) → Q (some (.int v)) h') : Calls d nX1_pass [.ref (g + 1), .ref a, .ref (g + 6), .ref ru] h (hN h) (hU h) Q := by
  obtain ⟨⟨h0, h1, h2, h3, h4, h5, h6, h7, h8, h9, h10, h11⟩, ⟨c1, c2, c3, c4, c5, c6, c7, c8, c9, c10⟩, ⟨x1, x2, x3, x4⟩, d1, d2, d3⟩ := H
  have dam := hil_mom_dis x2.1 HN.1
  refine sp_pass hd (g + 1) ru a (g + 6) nr nw R (od2 one other i j) A N c1 x2 HN x3 (fun q hq => ?_) (by omega) (by omega) dam (fun z => by have := d3 z; omega) (fun h' f q => k h' _ (f.mono (fun c z => ?_)) q)
  · by_cases c : q = other
    · subst c
      simp only [od2, if_true, odI]
      exact ⟨ho2, fun z => cI_m2 hj (Option.some.inj z)⟩
    · by_cases c2 : q = one
      · subst c2
        simp only [od2, if_neg c, if_true, odI]
        exact ⟨ho1, fun z => cI_m2 hi (Option.some.inj z)⟩
      · simp only [od2, if_neg c, if_neg c2, odI]
        exact ⟨ho q hq c2 c, fun z => by cases z⟩
  · unfold mS
    omega
theorem wt_inner {d E1 E2 : Nat} {Q : Option Value → AH → Prop} (hd : 10 ≤ d) (g t a ru nr nw one other i : Nat) (A M : PC) (R : Option (List (List (Nat × Nat) × List (Nat × Nat)))) (h1 : one < nr) (h2 : other < nr) (hno : one ≠ other) (hi : i ≤ nw) (h0 : AH) (k : ∀ h', Fr' h0 h' (GB g) → (∀ q, q < 5 → q ≠ one → q ≠ other → hI h' (g + 2) q = -2) → WT h' g nw (mrB A (M 0 0)) (w1F R A nr nw M one other) (w2F R A nr nw M one other) (i + 1) 0 → Reach d nX0_weighTwos (2, [.ref g, .int (nI one), .int (nI other), .int (cI (i + 1)), .float 0], []) h' E1 E2 Q) : ∀ (n j : Nat) (h : AH), j + n = nw + 1 → CC h g t a ru nr nw A M R → Fr' h0 h (GB g) → (∀ q, q < 5 → q ≠ one → q ≠ other → hI h (g + 2) q = -2) → WT h g nw (mrB A (M 0 0)) (w1F R A nr nw M one other) (w2F R A nr nw M one other) i j → Reach d nX0_weighTwos (19, [.ref g, .int (nI one), .int (nI other), .int (cI i), .int (cI j)], []) h E1 E2 Q
  | 0, j, h, hj, H, f0, ho, HW => by
    have : j = nw + 1 := by omega
    subst this
    have b2 := H.2.2.1.2.1.2.2.2.2.1
    obtain ⟨⟨g0, -, -, -, -, -, -, -, -, g9, -, g11⟩, -, ⟨x1, x2, -, -⟩, -⟩ := H
    refine wX0_weighTwos_19 (by omega) g (nI one) (nI other) (cI i) (cI (nw + 1)) ?_
    simp only [rt_i, rt_b0, rt_b1, rt_v, rt_l, rt_o, rt_a, rV_none, rI_some, rL_some, rR_some, rT_some, rt_bI, hIf_sL, hIf_sR, hS_sI, hS_sL, hS_sR, hS_cpI, hR_sI, hR_sL, hR_cpI, hL_sI, hL_sR, hL_cpI, hI_sL, hI_sR, hN_sI, hN_sL, hN_sR, hN_cpI, hU_sI, hU_sL, hU_sR, hU_cpI, tn0, tn1, tn2, tn3, tn4, tn5, tn6, tn7, tn8, tn9, tn10, tn11, tn12, tn13, tn14, tn15, tn16, tn17, tn18, tn19, tn20, tn21, tn22, tn23, tn24, tn25, tn26, tn27, tn28, tn29, tn30, tn31, tn32, tn33, tn34, tn35, tn36, tn37, tn38, tn39, tn40, tn41, tn42, tn43, tn44, tn45, tn46, tn47, tn48, tn49, tn50, tn51, tn52, tn53, tn54, tn55, tn56, tn57, tn58, tn59, tn60, lH_eq, true_and, and_true, g0, g9, g11, twq_0 x1, hiq_0 x2.1, x2.2.2.1, cI_ge (show nw + 1 < 1000 by omega) (show nw < 1000 by omega), cI_up]
    refine ⟨fun _ => k h f0 ho (fun a b c1 c2 c3 c4 c5 => HW a b (by omega) c2 c3 c4 c5), fun z => absurd (Nat.lt_succ_self nw) z⟩
  | n + 1, j, h, hj, H, f0, ho, HW => by
    have HC := H
    have b1 := H.2.2.1.2.1.2.2.2.1
    have b2 := H.2.2.1.2.1.2.2.2.2.1
    obtain ⟨⟨g0, g1, g2, g3, g4, g5, g6, g7, g8, g9, g10, g11⟩, ⟨c1, c2, c3, c4, c5, c6, c7, c8, c9, c10⟩, ⟨x1, x2, x3, x4⟩, d1, d2, d3⟩ := H
    have ed : hI h (t + 1) 0 = M 0 0 := x4.2.1.1
    have skip : (¬ (mrB A (M 0 0) i = true ∧ mrB A (M 0 0) j = true)) → Reach d nX0_weighTwos (19, [.ref g, .int (nI one), .int (nI other), .int (cI i), .int (cI j + 1)], []) h E1 E2 Q := fun z => by
      rw [cI_up]
      refine wt_inner hd g t a ru nr nw one other i A M R h1 h2 hno hi h0 k n (j + 1) h (by omega) HC f0 ho (fun a b c1 c2 c3 c4 c5 => ?_)
      by_cases e : a = i ∧ b = j
      · obtain ⟨rfl, rfl⟩ := e
        exact absurd ⟨c4, c5⟩ z
      · exact HW a b (by omega) c2 c3 c4 c5
    refine wX0_weighTwos_19 (by omega) g (nI one) (nI other) (cI i) (cI j) ?_
    simp only [rt_i, rt_b0, rt_b1, rt_v, rt_l, rt_o, rt_a, rV_none, rI_some, rL_some, rR_some, rT_some, rt_bI, hIf_sL, hIf_sR, hS_sI, hS_sL, hS_sR, hS_cpI, hR_sI, hR_sL, hR_cpI, hL_sI, hL_sR, hL_cpI, hI_sL, hI_sR, hN_sI, hN_sL, hN_sR, hN_cpI, hU_sI, hU_sL, hU_sR, hU_cpI, tn0, tn1, tn2, tn3, tn4, tn5, tn6, tn7, tn8, tn9, tn10, tn11, tn12, tn13, tn14, tn15, tn16, tn17, tn18, tn19, tn20, tn21, tn22, tn23, tn24, tn25, tn26, tn27, tn28, tn29, tn30, tn31, tn32, tn33, tn34, tn35, tn36, tn37, tn38, tn39, tn40, tn41, tn42, tn43, tn44, tn45, tn46, tn47, tn48, tn49, tn50, tn51, tn52, tn53, tn54, tn55, tn56, tn57, tn58, tn59, tn60, lH_eq, true_and, and_true, g0, g9, g11, twq_0 x1, twq_1 x1, twq_2 x1, twq_3 x1, twq_4 x1, twq_5 x1, twq_6 x1, twq_7 x1, twq_8 x1, twq_9 x1, twq_10 x1, hiq_0 x2.1, x2.2.2.1, cI_ge (show j < 1000 by omega) (show nw < 1000 by omega), ed]
    refine ⟨fun z => absurd z (by omega), fun _ => ?_⟩
    refine sp_mayRunFor (by omega) g t a ru nr nw i A M R (M 0 0) HC hi ?_
    simp only [rI_some, bI0, g0, g9, twq_0 x1, twq_1 x1, twq_2 x1, twq_3 x1, twq_4 x1, twq_5 x1, twq_6 x1, twq_7 x1, twq_8 x1, twq_9 x1, twq_10 x1, true_and, ed]
    refine ⟨fun z => skip (fun y => z y.1), fun z1 => ?_⟩
    refine sp_mayRunFor (by omega) g t a ru nr nw j A M R (M 0 0) HC (by omega) ?_
    simp only [rI_some, bI0, g0, g2, g9, twq_0 x1, twq_1 x1, twq_2 x1, twq_3 x1, twq_4 x1, twq_5 x1, twq_6 x1, twq_7 x1, twq_8 x1, twq_9 x1, twq_10 x1, moq_0 c2, true_and]
    refine ⟨fun z => skip (fun y => z y.2), fun z2 => ?_⟩
    have z1 := Decidable.not_not.mp z1
    have z2 := Decidable.not_not.mp z2
    refine sp_become (by omega) (g + 6) (t + 1) c2 x4.1 (mom_dis c2 x4.1 (by omega)) (fun k1 f1 p0 p1 p2 => ?_)
    have m1 : MomIs k1 (g + 6) nr nw M := x4.of b1 b2 (c2.fr f1) p0 p1 p2
    have f1G := f1.mono (T := GB g) (fun c z => by unfold mS at z; unfold GB; omega)
    simp only [rV_none, rt_i, rt_b0, rt_b1, rt_v, rt_l, rt_o, rt_a, rV_none, rI_some, rL_some, rR_some, rT_some, rt_bI, hIf_sL, hIf_sR, hS_sI, hS_sL, hS_sR, hS_cpI, hR_sI, hR_sL, hR_cpI, hL_sI, hL_sR, hL_cpI, hI_sL, hI_sR, hN_sI, hN_sL, hN_sR, hN_cpI, hU_sI, hU_sL, hU_sR, hU_cpI, tn0, tn1, tn2, tn3, tn4, tn5, tn6, tn7, tn8, tn9, tn10, tn11, tn12, tn13, tn14, tn15, tn16, tn17, tn18, tn19, tn20, tn21, tn22, tn23, tn24, tn25, tn26, tn27, tn28, tn29, tn30, tn31, tn32, tn33, tn34, tn35, tn36, tn37, tn38, tn39, tn40, tn41, tn42, tn43, tn44, tn45, tn46, tn47, tn48, tn49, tn50, tn51, tn52, tn53, tn54, tn55, tn56, tn57, tn58, tn59, tn60, lH_eq, true_and, and_true, f1.1, f1.2.1, g0, g1, g2, g9, g10, g11, twq_0 x1, coq_0 c1, coq_1 c1, coq_2 c1, coq_3 c1, coq_4 c1, coq_5 c1, coq_6 c1, coq_7 c1, coq_8 c1, vp_in_nI (show one < 5 by omega) (show 5 < 2 ^ 31 by omega), nI_clamp (show one < 2 ^ 31 by omega), vp_in_nI (show other < 5 by omega) (show 5 < 2 ^ 31 by omega), nI_clamp (show other < 2 ^ 31 by omega), coq_0 c1]
    have f2 : Fr' k1 (sI (sI k1 (g + 1 + 1) one (cI i)) (g + 1 + 1) other (cI j)) (fun c => c = g + 2) := (Fr'.sI (S := fun c => c = g + 2) (by omega)).trans (Fr'.sI (by omega))
    have f2G := f2.mono (T := GB g) (fun c z => by unfold GB; omega)
    have m2 := m1.fr b1 b2 f2 (fun c z1 z2 z => by omega)
    have f12 := f1G.trans f2G
    have HC2 := HC.fr f12
    have hq : ∀ q, hI (sI (sI k1 (g + 1 + 1) one (cI i)) (g + 1 + 1) other (cI j)) (g + 2) q = if q = other then cI j else if q = one then cI i else hI h (g + 2) q := fun q => by
      simp only [hI_sI, show (g + 2 = g + 1 + 1) = True from eq_true (by omega), if_true, f1.2.2.2.2.1 (g + 2) (by unfold mS; omega)]
    have ho2 : ∀ q, q < 5 → q ≠ one → q ≠ other → hI (sI (sI k1 (g + 1 + 1) one (cI i)) (g + 1 + 1) other (cI j)) (g + 2) q = -2 := fun q a b c => by
      rw [hq, if_neg c, if_neg b]; exact ho q a b c
    refine cc_pass2 (by omega) g t a ru nr nw one other i j A M M R HC2 m2 (by omega) (by omega) hno (fun q hq' => ho2 q (by omega)) (by rw [hq, if_neg hno, if_pos rfl]) (by rw [hq, if_pos rfl]) (fun k3 v f3 m3 => ?_)
    have f3G := f3.mono (T := GB g) (fun c z => by unfold mS at z; unfold GB; omega)
    have f123 := f12.trans f3G
    have HC3 := HC.fr f123
    have hi7 := c9 i (by omega)
    have hi7' := c10 i (by omega)
    simp only [rI_some, rt_i, rt_b0, rt_b1, rt_v, rt_l, rt_o, rt_a, rV_none, rI_some, rL_some, rR_some, rT_some, rt_bI, hIf_sL, hIf_sR, hS_sI, hS_sL, hS_sR, hS_cpI, hR_sI, hR_sL, hR_cpI, hL_sI, hL_sR, hL_cpI, hI_sL, hI_sR, hN_sI, hN_sL, hN_sR, hN_cpI, hU_sI, hU_sL, hU_sR, hU_cpI, tn0, tn1, tn2, tn3, tn4, tn5, tn6, tn7, tn8, tn9, tn10, tn11, tn12, tn13, tn14, tn15, tn16, tn17, tn18, tn19, tn20, tn21, tn22, tn23, tn24, tn25, tn26, tn27, tn28, tn29, tn30, tn31, tn32, tn33, tn34, tn35, tn36, tn37, tn38, tn39, tn40, tn41, tn42, tn43, tn44, tn45, tn46, tn47, tn48, tn49, tn50, tn51, tn52, tn53, tn54, tn55, tn56, tn57, tn58, tn59, tn60, lH_eq, true_and, and_true, f123.1, f123.2.1, g0, g7, g8, c7, c8, cI_1, vp_in_nI (show i < 7 by omega) (show 7 < 2 ^ 31 by omega), nI_clamp (show i < 2 ^ 31 by omega), hi7.1, hi7.2]
    repeat refine ⟨by decide, ?_⟩
    refine sp_hasThen (by omega) g t a ru nr nw one A M _ R h1 HC3 m3 ?_
    simp only [rI_some, rt_i, rt_b0, rt_b1, rt_v, rt_l, rt_o, rt_a, rV_none, rI_some, rL_some, rR_some, rT_some, rt_bI, hIf_sL, hIf_sR, hS_sI, hS_sL, hS_sR, hS_cpI, hR_sI, hR_sL, hR_cpI, hL_sI, hL_sR, hL_cpI, hI_sL, hI_sR, hN_sI, hN_sL, hN_sR, hN_cpI, hU_sI, hU_sL, hU_sR, hU_cpI, tn0, tn1, tn2, tn3, tn4, tn5, tn6, tn7, tn8, tn9, tn10, tn11, tn12, tn13, tn14, tn15, tn16, tn17, tn18, tn19, tn20, tn21, tn22, tn23, tn24, tn25, tn26, tn27, tn28, tn29, tn30, tn31, tn32, tn33, tn34, tn35, tn36, tn37, tn38, tn39, tn40, tn41, tn42, tn43, tn44, tn45, tn46, tn47, tn48, tn49, tn50, tn51, tn52, tn53, tn54, tn55, tn56, tn57, tn58, tn59, tn60, lH_eq, true_and, and_true, f123.1, f123.2.1, g0, g7, g8, c7, c8, cI_1, vp_in_nI (show i < 7 by omega) (show 7 < 2 ^ 31 by omega), nI_clamp (show i < 2 ^ 31 by omega), vp_in_nI (show j < 7 by omega) (show 7 < 2 ^ 31 by omega), nI_clamp (show j < 2 ^ 31 by omega), hi7.1, hi7.2, hi7'.1, hi7'.2]
    repeat refine ⟨by decide, ?_⟩
    have f4 : Fr' k3 (sI k3 (g + 27 + i) j (htF (paF R A nr nw (od2 one other i j) M) M one)) (fun c => c = g + 27 + i) := Fr'.sI rfl
    have f4G := f4.mono (T := GB g) (fun c z => by unfold GB; omega)
    refine sp_hasThen (h := sI k3 (g + 27 + i) j (htF (paF R A nr nw (od2 one other i j) M) M one)) (by omega) g t a ru nr nw other A M _ R h2 (HC3.fr f4G) (m3.fr b1 b2 f4 (fun c z1 z2 z => by omega)) ?_
    simp only [rI_some, rt_i, rt_b0, rt_b1, rt_v, rt_l, rt_o, rt_a, rV_none, rI_some, rL_some, rR_some, rT_some, rt_bI, hIf_sL, hIf_sR, hS_sI, hS_sL, hS_sR, hS_cpI, hR_sI, hR_sL, hR_cpI, hL_sI, hL_sR, hL_cpI, hI_sL, hI_sR, hN_sI, hN_sL, hN_sR, hN_cpI, hU_sI, hU_sL, hU_sR, hU_cpI, tn0, tn1, tn2, tn3, tn4, tn5, tn6, tn7, tn8, tn9, tn10, tn11, tn12, tn13, tn14, tn15, tn16, tn17, tn18, tn19, tn20, tn21, tn22, tn23, tn24, tn25, tn26, tn27, tn28, tn29, tn30, tn31, tn32, tn33, tn34, tn35, tn36, tn37, tn38, tn39, tn40, tn41, tn42, tn43, tn44, tn45, tn46, tn47, tn48, tn49, tn50, tn51, tn52, tn53, tn54, tn55, tn56, tn57, tn58, tn59, tn60, lH_eq, true_and, and_true, f123.1, f123.2.1, hi7'.1, hi7'.2, vp_in_nI (show i < 7 by omega) (show 7 < 2 ^ 31 by omega), nI_clamp (show i < 2 ^ 31 by omega), vp_in_nI (show j < 7 by omega) (show 7 < 2 ^ 31 by omega), nI_clamp (show j < 2 ^ 31 by omega), cI_1]
    rw [show nI j = cI (j + 1) from (cI_s j).symm]
    have f5 : Fr' (sI k3 (g + 27 + i) j (htF (paF R A nr nw (od2 one other i j) M) M one)) (sI (sI k3 (g + 27 + i) j (htF (paF R A nr nw (od2 one other i j) M) M one)) (g + 35 + i) j (htF (paF R A nr nw (od2 one other i j) M) M other)) (fun c => c = g + 35 + i) := Fr'.sI rfl
    have f5G := f5.mono (T := GB g) (fun c z => by unfold GB; omega)
    have fA := (f123.trans f4G).trans f5G
    have eI : ∀ c q, (c ≠ g + 27 + i ∨ q ≠ j) → (c ≠ g + 35 + i ∨ q ≠ j) → g + 24 ≤ c → hI (sI (sI k3 (g + 27 + i) j (htF (paF R A nr nw (od2 one other i j) M) M one)) (g + 35 + i) j (htF (paF R A nr nw (od2 one other i j) M) M other)) c q = hI h c q := fun c q e1 e2 e3 => by
      have e4 : hI k3 c q = hI h c q := by rw [f3.2.2.2.2.1 c (by unfold mS; omega), f2.2.2.2.2.1 c (by omega), f1.2.2.2.2.1 c (by unfold mS; omega)]
      rw [hI_sI, hI_sI, e4]
      by_cases c1 : c = g + 35 + i
      · rw [if_pos c1, if_neg (by omega), if_neg (by omega)]
      · rw [if_neg c1]
        by_cases c2 : c = g + 27 + i
        · rw [if_pos c2, if_neg (by omega)]
        · rw [if_neg c2]
    refine wt_inner hd g t a ru nr nw one other i A M R h1 h2 hno hi h0 k n (j + 1) _ (by omega) (HC.fr fA) (f0.trans fA) (fun q q1 q2 q3 => ?_) (fun a b c1 c2 c3 c4 c5 => ?_)
    · rw [hI_sI, if_neg (by omega), hI_sI, if_neg (by omega), f3.2.2.2.2.1 (g + 2) (by unfold mS; omega)]
      exact ho2 q q1 q2 q3
    · by_cases e : a = i ∧ b = j
      · obtain ⟨rfl, rfl⟩ := e
        refine ⟨?_, ?_⟩
        · rw [hI_sI, if_neg (by omega), hI_sI, if_pos rfl, if_pos rfl]; rfl
        · rw [hI_sI, if_pos rfl, if_pos rfl]; rfl
      · rw [eI _ _ (by omega) (by omega) (by omega), eI _ _ (by omega) (by omega) (by omega)]
        exact HW a b (by omega) c2 c3 c4 c5

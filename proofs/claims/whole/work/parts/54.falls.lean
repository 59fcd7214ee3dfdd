theorem dfF_lt {dr : Nat → Nat} (hdr : DrOk dr) (nr p : Nat) (s : Nat × PC) (hs : s.1 < 2 ^ 31) : (dfF dr nr p s).1 < 2 ^ 31 := by
  have h1 := (hdr _ hs).1
  unfold dfF
  split
  · exact (hdr _ h1).1
  · exact h1
theorem fdF_lt {dr : Nat → Nat} (hdr : DrOk dr) (R : Option (List (List (Nat × Nat) × List (Nat × Nat)))) (A : PC) (nr nw p : Nat) : ∀ (n : Nat) (s : Nat × PC), s.1 < 2 ^ 31 → (fdF dr R A nr nw p n s).1 < 2 ^ 31
  | 0, s, h => h
  | n + 1, s, h => by
    have := dfF_lt hdr nr p s h
    simp only [fdF]
    exact fdF_lt hdr R A nr nw p n _ this
theorem fd_loop {d E1 E2 : Nat} {Q : Option Value → AH → Prop} {dr : Nat → Nat} (hdr : DrOk dr) (hd : 11 ≤ d) (f t a ru nr nw p days : Nat) (A M : PC) (R : Option (List (List (Nat × Nat) × List (Nat × Nat)))) (v1 v4 v5 v6 v7 : Int32) (hp : p ≤ 100) (hdays : days ≤ 60) : ∀ (l i : Nat) (s : Nat × PC) (h : AH), i + l = days → s.1 < 2 ^ 31 → FC h f t a ru nr nw A M R → MomIs h (f + 6) nr nw s.2 → hI h f 4 = nI s.1 → (∀ h', Fr' h h' (FB f) → hI h' f 4 = nI (fdF dr R A nr nw p l s).1 → MomIs h' (f + 6) nr nw (fdF dr R A nr nw p l s).2 → Reach d nX2_drawFalls (43, [.ref f, .int v1, .int (nI days), .int (nI p), .int v4, .int v5, .int v6, .int v7, .int (nI days)], []) h' E1 E2 Q) → Reach d nX2_drawFalls (43, [.ref f, .int v1, .int (nI days), .int (nI p), .int v4, .int v5, .int v6, .int v7, .int (nI i)], []) h E1 E2 Q
  | 0, i, s, h, hi, hs, H, HN, h4, k => by
    have : i = days := by omega
    subst this
    exact k h (Fr'.refl _ _) h4 HN
  | l + 1, i, s, h, hi, hs, H, HN, h4, k => by
    have h0 := H.1.1
    refine wX2_drawFalls_43 (by omega) f v1 (nI days) (nI p) v4 v5 v6 v7 (nI i) ?_
    simp only [rt_i, rt_b0, rt_b1, rt_v, rt_l, rt_o, rt_a, rV_none, rI_some, rL_some, rR_some, rT_some, rt_bI, hIf_sL, hIf_sR, hS_sI, hS_sL, hS_sR, hS_cpI, hR_sI, hR_sL, hR_cpI, hL_sI, hL_sR, hL_cpI, hI_sL, hI_sR, hN_sI, hN_sL, hN_sR, hN_cpI, hU_sI, hU_sL, hU_sR, hU_cpI, tn0, tn1, tn2, tn3, tn4, tn5, tn6, tn7, tn8, tn9, tn10, tn11, tn12, tn13, tn14, tn15, tn16, tn17, tn18, tn19, tn20, tn21, tn22, tn23, tn24, tn25, tn26, tn27, tn28, tn29, tn30, tn31, tn32, tn33, tn34, tn35, tn36, tn37, tn38, tn39, tn40, tn41, tn42, tn43, tn44, tn45, tn46, tn47, tn48, tn49, tn50, tn51, tn52, tn53, tn54, tn55, tn56, tn57, tn58, tn59, tn60, lH_eq, true_and, and_true, h0, nI_le_iff (show days < 2 ^ 31 by omega) (show i < 2 ^ 31 by omega)]
    refine ⟨fun z => absurd z (by omega), fun _ => ?_⟩
    refine sp_drawFall hdr (by omega) f t a ru nr nw p A M s.2 R s.1 hs hp H HN h4 (fun h1 g1 q1 q2 => ?_)
    simp only [rV_none, g1.1, h0, true_and]
    refine sp_go (by omega) f t a ru nr nw A M _ R 1 (by decide) (H.fr g1) q2 (fun h2 g2 gf2 q3 => ?_)
    simp only [rV_none, nI_1]
    have g := g1.trans g2
    exact fd_loop hdr hd f t a ru nr nw p days A M R v1 v4 v5 v6 v7 hp hdays l (i + 1) ((dfF dr nr p s).1, paF R A nr nw (fun _ => none) (dfF dr nr p s).2) h2 (by omega) (dfF_lt hdr nr p s hs) (H.fr g) q3 (by rw [gf2]; exact q1) (fun h' g' q4 q5 => k h' (g.trans g') q4 q5)
theorem df_loop {d E1 E2 : Nat} {Q : Option Value → AH → Prop} {dr : Nat → Nat} (hdr : DrOk dr) (hd : 11 ≤ d) (f t a ru nr nw p days times : Nat) (A M : PC) (R : Option (List (List (Nat × Nat) × List (Nat × Nat)))) (wh : Int32) (hp : p ≤ 100) (hdays : days ≤ 60) (ht : times ≤ 10) : ∀ (l i : Nat) (s : Nat × Int32 × Int32) (h : AH), i + l = times → s.1 < 2 ^ 31 → FC h f t a ru nr nw A M R → hI h f 4 = nI s.1 → hN h = E1 → hU h = E2 → (∀ h', Fr' h h' (FB f) → Q (some (.int (if wh = 0 then (fsF dr R A nr nw p days M l s).2.1 else (fsF dr R A nr nw p days M l s).2.2))) h') → Reach d nX2_drawFalls (20, [.ref f, .int (nI times), .int (nI days), .int (nI p), .int wh, .int s.2.1, .int s.2.2, .int (nI i), .float 0], []) h E1 E2 Q
  | 0, i, s, h, hi, hs, H, h4, e1, e2, k => by
    have : i = times := by omega
    subst this
    refine wX2_drawFalls_20 (by omega) f (nI i) (nI days) (nI p) wh _ _ (nI i) ?_
    simp only [rt_i, rt_b0, rt_b1, rt_v, rt_l, rt_o, rt_a, rV_none, rI_some, rL_some, rR_some, rT_some, rt_bI, hIf_sL, hIf_sR, hS_sI, hS_sL, hS_sR, hS_cpI, hR_sI, hR_sL, hR_cpI, hL_sI, hL_sR, hL_cpI, hI_sL, hI_sR, hN_sI, hN_sL, hN_sR, hN_cpI, hU_sI, hU_sL, hU_sR, hU_cpI, tn0, tn1, tn2, tn3, tn4, tn5, tn6, tn7, tn8, tn9, tn10, tn11, tn12, tn13, tn14, tn15, tn16, tn17, tn18, tn19, tn20, tn21, tn22, tn23, tn24, tn25, tn26, tn27, tn28, tn29, tn30, tn31, tn32, tn33, tn34, tn35, tn36, tn37, tn38, tn39, tn40, tn41, tn42, tn43, tn44, tn45, tn46, tn47, tn48, tn49, tn50, tn51, tn52, tn53, tn54, tn55, tn56, tn57, tn58, tn59, tn60, lH_eq, true_and, and_true, nI_le_iff (show i < 2 ^ 31 by omega) (show i < 2 ^ 31 by omega)]
    have kk := k h (Fr'.refl _ _)
    refine ⟨fun _ => ⟨fun z => ?_, fun z => ?_⟩, fun z => absurd (Nat.le_refl i) z⟩
    · rw [if_pos z] at kk; exact ⟨e1, e2, kk⟩
    · rw [if_neg z] at kk; exact ⟨e1, e2, kk⟩
  | l + 1, i, s, h, hi, hs, H, h4, e1, e2, k => by
    have HC := H
    obtain ⟨⟨h0, h1, h2, h3, h4', h5⟩, ⟨c1, c2, c3, c4, c5, c6, c7⟩, d1, d2, d3⟩ := H
    refine wX2_drawFalls_20 (by omega) f (nI times) (nI days) (nI p) wh _ _ (nI i) ?_
    simp only [rt_i, rt_b0, rt_b1, rt_v, rt_l, rt_o, rt_a, rV_none, rI_some, rL_some, rR_some, rT_some, rt_bI, hIf_sL, hIf_sR, hS_sI, hS_sL, hS_sR, hS_cpI, hR_sI, hR_sL, hR_cpI, hL_sI, hL_sR, hL_cpI, hI_sL, hI_sR, hN_sI, hN_sL, hN_sR, hN_cpI, hU_sI, hU_sL, hU_sR, hU_cpI, tn0, tn1, tn2, tn3, tn4, tn5, tn6, tn7, tn8, tn9, tn10, tn11, tn12, tn13, tn14, tn15, tn16, tn17, tn18, tn19, tn20, tn21, tn22, tn23, tn24, tn25, tn26, tn27, tn28, tn29, tn30, tn31, tn32, tn33, tn34, tn35, tn36, tn37, tn38, tn39, tn40, tn41, tn42, tn43, tn44, tn45, tn46, tn47, tn48, tn49, tn50, tn51, tn52, tn53, tn54, tn55, tn56, tn57, tn58, tn59, tn60, lH_eq, true_and, and_true, h0, h2, h3, twq_0 c3, twq_1 c3, twq_2 c3, twq_3 c3, twq_4 c3, twq_5 c3, twq_6 c3, twq_7 c3, twq_8 c3, twq_9 c3, twq_10 c3, moq_0 c2, nI_le_iff (show times < 2 ^ 31 by omega) (show i < 2 ^ 31 by omega)]
    refine ⟨fun z => absurd z (by omega), fun _ => ?_⟩
    refine fc_become (by omega) f t a ru nr nw A M R HC (fun h1' g gf HC1 HM1 => ?_)
    rw [rV_none]
    refine fd_loop hdr hd f t a ru nr nw p days A M R _ _ _ _ _ hp hdays days 0 (s.1, M) h1' (by omega) hs HC1 HM1 (by rw [gf]; exact h4) (fun h2' g2 q4 q5 => ?_)
    refine wX2_drawFalls_43 (by omega) f (nI times) (nI days) (nI p) wh _ _ (nI i) (nI days) ?_
    have gA := g.trans g2
    simp only [rt_i, rt_b0, rt_b1, rt_v, rt_l, rt_o, rt_a, rV_none, rI_some, rL_some, rR_some, rT_some, rt_bI, hIf_sL, hIf_sR, hS_sI, hS_sL, hS_sR, hS_cpI, hR_sI, hR_sL, hR_cpI, hL_sI, hL_sR, hL_cpI, hI_sL, hI_sR, hN_sI, hN_sL, hN_sR, hN_cpI, hU_sI, hU_sL, hU_sR, hU_cpI, tn0, tn1, tn2, tn3, tn4, tn5, tn6, tn7, tn8, tn9, tn10, tn11, tn12, tn13, tn14, tn15, tn16, tn17, tn18, tn19, tn20, tn21, tn22, tn23, tn24, tn25, tn26, tn27, tn28, tn29, tn30, tn31, tn32, tn33, tn34, tn35, tn36, tn37, tn38, tn39, tn40, tn41, tn42, tn43, tn44, tn45, tn46, tn47, tn48, tn49, tn50, tn51, tn52, tn53, tn54, tn55, tn56, tn57, tn58, tn59, tn60, lH_eq, true_and, and_true, gA.1, h0, nI_le_iff (show days < 2 ^ 31 by omega) (show days < 2 ^ 31 by omega)]
    refine ⟨fun _ => ?_, fun z => absurd (Nat.le_refl _) z⟩
    refine sp_gain (by omega) f t a ru nr nw A M _ R (HC.fr gA) q5 ?_
    simp only [rI_some, gA.1, h0, true_and]
    refine sp_greatestPurse (by omega) f t a ru nr nw A M _ R (HC.fr gA) q5 ?_
    simp only [rI_some, nI_1]
    exact df_loop hdr hd f t a ru nr nw p days times A M R wh hp hdays ht l (i + 1) ((fdF dr R A nr nw p days (s.1, M)).1, s.2.1 + gaF (fdF dr R A nr nw p days (s.1, M)).2 M nr, s.2.2 + gpF (fdF dr R A nr nw p days (s.1, M)).2 nr) h2' (by omega) (fdF_lt hdr R A nr nw p days _ hs) (HC.fr gA) q4 (gA.2.2.1.trans e1) (gA.2.2.2.1.trans e2) (fun h' g' => k h' (gA.trans g'))
theorem sp_drawFalls {d : Nat} {h : AH} {Q : Option Value → AH → Prop} {dr : Nat → Nat} (hdr : DrOk dr) (hd : 12 ≤ d) (f t a ru nr nw p days times x : Nat) (A M : PC) (R : Option (List (List (Nat × Nat) × List (Nat × Nat)))) (wh : Int32) (hp : p ≤ 100) (hdays : days ≤ 60) (ht : times ≤ 10) (hx : x < 2 ^ 31) (H : FC h f t a ru nr nw A M R) (hx2 : hI h t 2 = nI x) (k : ∀ h', Fr' h h' (FB f) → Q (some (.int (if wh = 0 then (fsF dr R A nr nw p days M times (x, 0, 0)).2.1 else (fsF dr R A nr nw p days M times (x, 0, 0)).2.2))) h') : Calls d nX2_drawFalls [.ref f, .int (nI times), .int (nI days), .int (nI p), .int wh] h (hN h) (hU h) Q := by
  obtain ⟨e, rfl⟩ : ∃ e, d = e + 1 := ⟨d - 1, by omega⟩
  have HC := H
  obtain ⟨⟨h0, h1, h2, h3, h4', h5⟩, ⟨c1, c2, c3, c4, c5, c6, c7⟩, d1, d2, d3⟩ := H
  refine wX2_drawFalls (by omega) f (nI times) (nI days) (nI p) wh ?_
  simp only [rt_i, rt_b0, rt_b1, rt_v, rt_l, rt_o, rt_a, rV_none, rI_some, rL_some, rR_some, rT_some, rt_bI, hIf_sL, hIf_sR, hS_sI, hS_sL, hS_sR, hS_cpI, hR_sI, hR_sL, hR_cpI, hL_sI, hL_sR, hL_cpI, hI_sL, hI_sR, hN_sI, hN_sL, hN_sR, hN_cpI, hU_sI, hU_sL, hU_sR, hU_cpI, tn0, tn1, tn2, tn3, tn4, tn5, tn6, tn7, tn8, tn9, tn10, tn11, tn12, tn13, tn14, tn15, tn16, tn17, tn18, tn19, tn20, tn21, tn22, tn23, tn24, tn25, tn26, tn27, tn28, tn29, tn30, tn31, tn32, tn33, tn34, tn35, tn36, tn37, tn38, tn39, tn40, tn41, tn42, tn43, tn44, tn45, tn46, tn47, tn48, tn49, tn50, tn51, tn52, tn53, tn54, tn55, tn56, tn57, tn58, tn59, tn60, lH_eq, true_and, and_true, h0, h3, twq_0 c3, hx2]
  have fr1 : Fr' h (sI h f 4 (nI x)) (FB f) := Fr'.sI (Or.inl rfl)
  exact df_loop hdr (by omega) f t a ru nr nw p days times A M R wh hp hdays ht times 0 (x, 0, 0) _ (by omega) hx (HC.fr fr1) (by rw [hI_sI, if_pos rfl, if_pos rfl]) rfl rfl (fun h' g => k h' (fr1.trans g))
/-- purses from -20 on -/
def puI (i : Nat) : Int32 := nI i - 20
theorem puI_toInt {i : Nat} (h : i < 1000) : (puI i).toInt = (i : Int) - 20 := pk_sub_toInt (a := i) (b := 20) (by omega) (by decide)
theorem puI_1 (i : Nat) : puI i + 1 = puI (i + 1) := by
  unfold puI
  rw [← nI_1]
  grind
def ctF (g : Nat → Bool) : Nat → Nat
  | 0 => 0
  | n + 1 => if g n = true then ctF g n + 1 else ctF g n
def fpV (o : Option Nat) : Int32 := match o with
  | none => -1000
  | some i => puI i
noncomputable def phG (R : Option (List (List (Nat × Nat) × List (Nat × Nat)))) (A : PC) (nr nw : Nat) (M : PC) (r n w i : Nat) : Bool := decide (itF R A nr nw n (setP M r (puI i)) 5 w = nI r)
theorem pt_loop {d E1 E2 : Nat} {Q : Option Value → AH → Prop} (hd : 11 ≤ d) (f t a ru nr nw r n w : Nat) (A M : PC) (R : Option (List (List (Nat × Nat) × List (Nat × Nat)))) (wh : Int32) (hn : n ≤ 20) (hr : r < nr) (hw : w < nw) : ∀ (l i : Nat) (h : AH), i + l = 61 → FC h f t a ru nr nw A M R → hN h = E1 → hU h = E2 → (wh = 0 → ∀ h', Fr' h h' (FB f) → Q (some (.int (nI (ctF (phG R A nr nw M r n w) 61)))) h') → (wh ≠ 0 → ∀ h', Fr' h h' (FB f) → Q (some (.int (fpV (foF (phG R A nr nw M r n w) l i)))) h') → Reach d nX2_pursesThatGet (7, [.ref f, .int (nI r), .int (nI n), .int (nI w), .int wh, .int (if wh = 0 then nI (ctF (phG R A nr nw M r n w) i) else 0), .int (puI i)], []) h E1 E2 Q
  | 0, i, h, hi, H, e1, e2, k0, k1 => by
    have : i = 61 := by omega
    subst this
    refine wX2_pursesThatGet_7 (by omega) f (nI r) (nI n) (nI w) wh _ (puI 61) ?_
    simp only [rt_i, rt_b0, rt_b1, rt_v, rt_l, rt_o, rt_a, rV_none, rI_some, rL_some, rR_some, rT_some, rt_bI, hIf_sL, hIf_sR, hS_sI, hS_sL, hS_sR, hS_cpI, hR_sI, hR_sL, hR_cpI, hL_sI, hL_sR, hL_cpI, hI_sL, hI_sR, hN_sI, hN_sL, hN_sR, hN_cpI, hU_sI, hU_sL, hU_sR, hU_cpI, tn0, tn1, tn2, tn3, tn4, tn5, tn6, tn7, tn8, tn9, tn10, tn11, tn12, tn13, tn14, tn15, tn16, tn17, tn18, tn19, tn20, tn21, tn22, tn23, tn24, tn25, tn26, tn27, tn28, tn29, tn30, tn31, tn32, tn33, tn34, tn35, tn36, tn37, tn38, tn39, tn40, tn41, tn42, tn43, tn44, tn45, tn46, tn47, tn48, tn49, tn50, tn51, tn52, tn53, tn54, tn55, tn56, tn57, tn58, tn59, tn60, lH_eq, true_and, and_true]
    refine ⟨fun _ => ⟨fun z => ?_, fun z => ?_⟩, fun z => absurd (by decide) z⟩
    · have := k0 z h (Fr'.refl _ _)
      rw [if_pos z]
      exact ⟨e1, e2, this⟩
    · exact ⟨e1, e2, k1 z h (Fr'.refl _ _)⟩
  | l + 1, i, h, hi, H, e1, e2, k0, k1 => by
    have HC := H
    obtain ⟨⟨h0, h1, h2, h3, h4', h5⟩, ⟨c1, c2, c3, c4, c5, c6, c7⟩, d1, d2, d3⟩ := H
    have b1 := c4.2.2.2.1
    have b2 := c4.2.2.2.2.1
    have h40 : (40 < puI i) = False := eq_false (by rw [Int32.lt_iff_toInt_lt, puI_toInt (by omega), show (40 : Int32).toInt = 40 by decide]; omega)
    refine wX2_pursesThatGet_7 (by omega) f (nI r) (nI n) (nI w) wh _ (puI i) ?_
    simp only [rt_i, rt_b0, rt_b1, rt_v, rt_l, rt_o, rt_a, rV_none, rI_some, rL_some, rR_some, rT_some, rt_bI, hIf_sL, hIf_sR, hS_sI, hS_sL, hS_sR, hS_cpI, hR_sI, hR_sL, hR_cpI, hL_sI, hL_sR, hL_cpI, hI_sL, hI_sR, hN_sI, hN_sL, hN_sR, hN_cpI, hU_sI, hU_sL, hU_sR, hU_cpI, tn0, tn1, tn2, tn3, tn4, tn5, tn6, tn7, tn8, tn9, tn10, tn11, tn12, tn13, tn14, tn15, tn16, tn17, tn18, tn19, tn20, tn21, tn22, tn23, tn24, tn25, tn26, tn27, tn28, tn29, tn30, tn31, tn32, tn33, tn34, tn35, tn36, tn37, tn38, tn39, tn40, tn41, tn42, tn43, tn44, tn45, tn46, tn47, tn48, tn49, tn50, tn51, tn52, tn53, tn54, tn55, tn56, tn57, tn58, tn59, tn60, lH_eq, true_and, and_true, h0, h2, h3, twq_0 c3, twq_1 c3, twq_2 c3, twq_3 c3, twq_4 c3, twq_5 c3, twq_6 c3, twq_7 c3, twq_8 c3, twq_9 c3, twq_10 c3, moq_0 c2, moq_1 c2, moq_2 c2, moq_3 c2, moq_4 c2, moq_5 c2, moq_6 c2, moq_7 c2, moq_8 c2, moq_9 c2, moq_10 c2, h40]
    refine ⟨fun z => z.elim, fun _ => ?_⟩
    refine fc_become (by omega) f t a ru nr nw A M R HC (fun h1' g gf HC1 HM1 => ?_)
    simp only [rV_none, g.1, g.2.1, rt_i, rt_b0, rt_b1, rt_v, rt_l, rt_o, rt_a, rV_none, rI_some, rL_some, rR_some, rT_some, rt_bI, hIf_sL, hIf_sR, hS_sI, hS_sL, hS_sR, hS_cpI, hR_sI, hR_sL, hR_cpI, hL_sI, hL_sR, hL_cpI, hI_sL, hI_sR, hN_sI, hN_sL, hN_sR, hN_cpI, hU_sI, hU_sL, hU_sR, hU_cpI, tn0, tn1, tn2, tn3, tn4, tn5, tn6, tn7, tn8, tn9, tn10, tn11, tn12, tn13, tn14, tn15, tn16, tn17, tn18, tn19, tn20, tn21, tn22, tn23, tn24, tn25, tn26, tn27, tn28, tn29, tn30, tn31, tn32, tn33, tn34, tn35, tn36, tn37, tn38, tn39, tn40, tn41, tn42, tn43, tn44, tn45, tn46, tn47, tn48, tn49, tn50, tn51, tn52, tn53, tn54, tn55, tn56, tn57, tn58, tn59, tn60, lH_eq, true_and, and_true, h0, h2, moq_0 c2, moq_1 c2, moq_2 c2, moq_3 c2, moq_4 c2, moq_5 c2, moq_6 c2, moq_7 c2, moq_8 c2, moq_9 c2, moq_10 c2, vp_in_nI (show r < 5 by omega) (show 5 < 2 ^ 31 by omega), nI_clamp (show r < 2 ^ 31 by omega)]
    have f2 : Fr' h1' (sI h1' (f + 6 + 2) r (puI i)) (FB f) := Fr'.sI (by unfold FB; omega)
    refine sp_go (by omega) f t a ru nr nw A M _ R n (by omega) (HC1.fr f2) (HM1.setP hr b1 rfl) (fun h3' g3 gf3 q3 => ?_)
    have gA := (g.trans f2).trans g3
    have eg : hI h3' (f + 6 + 5) w = itF R A nr nw n (setP M r (puI i)) 5 w := (q3.2.1.2.2 w hw).2
    simp only [rV_none, gA.1, gA.2.1, h0, h2, moq_0 c2, moq_1 c2, moq_2 c2, moq_3 c2, moq_4 c2, moq_5 c2, moq_6 c2, moq_7 c2, moq_8 c2, moq_9 c2, moq_10 c2, vp_in_nI (show w < 6 by omega) (show 6 < 2 ^ 31 by omega), nI_clamp (show w < 2 ^ 31 by omega), eg, true_and, puI_1]
    have go := fun (v : Int32) (hv : v = if wh = 0 then nI (ctF (phG R A nr nw M r n w) (i + 1)) else 0) k1' => (hv ▸ pt_loop (E1 := E1) (E2 := E2) (Q := Q) hd f t a ru nr nw r n w A M R wh hn hr hw l (i + 1) h3' (by omega) (HC.fr gA) (gA.2.2.1.trans e1) (gA.2.2.2.1.trans e2) (fun z h' g' => k0 z h' (gA.trans g')) k1' : Reach d nX2_pursesThatGet (7, [.ref f, .int (nI r), .int (nI n), .int (nI w), .int wh, .int v, .int (puI (i + 1))], []) h3' E1 E2 Q)
    have hc : ctF (phG R A nr nw M r n w) (i + 1) = if phG R A nr nw M r n w i = true then ctF (phG R A nr nw M r n w) i + 1 else ctF (phG R A nr nw M r n w) i := rfl
    have hf : foF (phG R A nr nw M r n w) (l + 1) i = if phG R A nr nw M r n w i = true then some i else foF (phG R A nr nw M r n w) l (i + 1) := rfl
    refine ⟨fun z => ?_, fun z => ⟨fun y => ?_, fun y => ?_⟩⟩
    · have hg : ¬ phG R A nr nw M r n w i = true := by simp [phG, z]
      rw [if_neg hg] at hc hf
      exact go _ (by rw [hc]) (fun y h' g' => by have := k1 y h' (gA.trans g'); rwa [hf] at this)
    · have hg : phG R A nr nw M r n w i = true := by simp [phG, z]
      rw [if_pos hg] at hc hf
      exact go _ (by rw [hc, if_pos y, if_pos y, nI_1]) (fun x => absurd y x)
    · have hg : phG R A nr nw M r n w i = true := by simp [phG, z]
      rw [if_pos hg] at hf
      have := k1 y h3' gA
      rw [hf] at this
      exact ⟨gA.2.2.1.trans e1, gA.2.2.2.1.trans e2, this⟩
theorem sp_pursesThatGet {d : Nat} {h : AH} {Q : Option Value → AH → Prop} (hd : 12 ≤ d) (f t a ru nr nw r n w : Nat) (A M : PC) (R : Option (List (List (Nat × Nat) × List (Nat × Nat)))) (wh : Int32) (hn : n ≤ 20) (hr : r < nr) (hw : w < nw) (H : FC h f t a ru nr nw A M R) (k : ∀ h', Fr' h h' (FB f) → Q (some (.int (if wh = 0 then nI (ctF (phG R A nr nw M r n w) 61) else fpV (foF (phG R A nr nw M r n w) 61 0)))) h') : Calls d nX2_pursesThatGet [.ref f, .int (nI r), .int (nI n), .int (nI w), .int wh] h (hN h) (hU h) Q := by
  obtain ⟨e, rfl⟩ : ∃ e, d = e + 1 := ⟨d - 1, by omega⟩
  have := pt_loop (E1 := hN h) (E2 := hU h) (Q := Q) (d := e) (by omega) f t a ru nr nw r n w A M R wh hn hr hw 61 0 h (by omega) H rfl rfl (fun z h' g => by have := k h' g; rwa [if_pos z] at this) (fun z h' g => by have := k h' g; rwa [if_neg z] at this)
  refine wX2_pursesThatGet (by omega) f (nI r) (nI n) (nI w) wh ?_
  have e0 : (if wh = 0 then nI (ctF (phG R A nr nw M r n w) 0) else 0) = 0 := by split <;> rfl
  rw [e0] at this
  exact this

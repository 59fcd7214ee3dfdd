/-! how many seconds one needs; whom one had best borrow from; what one can have had -/
def foF (g : Nat → Bool) : Nat → Nat → Option Nat
  | 0, _ => none
  | n + 1, i => if g i = true then some i else foF g n (i + 1)
theorem foF_none {g : Nat → Bool} : ∀ (n i : Nat), (∀ j, i ≤ j → g j = false) → foF g n i = none
  | 0, _, _ => rfl
  | n + 1, i, h => by
    simp only [foF, h i (Nat.le_refl i)]
    exact foF_none n (i + 1) (fun j hj => h j (by omega))
def foV (z : Int32) (o : Option Nat) : Int32 := match o with
  | none => z
  | some i => nI i
noncomputable def ndG (R : Option (List (List (Nat × Nat) × List (Nat × Nat)))) (A : PC) (nr nw : Nat) (M : PC) (r n : Nat) (W : Int32) (k : Nat) : Bool := decide ((M 2 r).toInt + k ≤ 99) && decide (W ≤ itF R A nr nw n (setP M r (M 2 r + nI k)) 3 r)
theorem fs_loop {d E1 E2 : Nat} {Q : Option Value → AH → Prop} (hd : 11 ≤ d) (f t a ru nr nw r n : Nat) (A M : PC) (R : Option (List (List (Nat × Nat) × List (Nat × Nat)))) (W : Int32) {D : Int} (hD : D ≤ 50000) (hW : 1 ≤ W.toInt ∧ W.toInt ≤ 9999) (hn : n ≤ 60) (hr : r < nr) (hA : hilOk nr nw A) (hM : momOk D nr nw M) : ∀ (l i : Nat) (h : AH), i + l = 61 → FC h f t a ru nr nw A M R → hN h = E1 → hU h = E2 → (∀ h', Fr' h h' (FB f) → Q (some (.int (foV (-2) (foF (ndG R A nr nw M r n W) l i)))) h') → Reach d nX2_fewestSeconds (3, [.ref f, .int (nI r), .int (nI n), .int W, .int (nI i), .float 0], []) h E1 E2 Q
  | 0, i, h, hi, H, e1, e2, k => by
    have : i = 61 := by omega
    subst this
    refine wX2_fewestSeconds_3 (by omega) f (nI r) (nI n) W (nI 61) ?_
    simp only [rt_i, rt_b0, rt_b1, rt_v, rt_l, rt_o, rt_a, rV_none, rI_some, rL_some, rR_some, rT_some, rt_bI, hIf_sL, hIf_sR, hS_sI, hS_sL, hS_sR, hS_cpI, hR_sI, hR_sL, hR_cpI, hL_sI, hL_sR, hL_cpI, hI_sL, hI_sR, hN_sI, hN_sL, hN_sR, hN_cpI, hU_sI, hU_sL, hU_sR, hU_cpI, tn0, tn1, tn2, tn3, tn4, tn5, tn6, tn7, tn8, tn9, tn10, tn11, tn12, tn13, tn14, tn15, tn16, tn17, tn18, tn19, tn20, tn21, tn22, tn23, tn24, tn25, tn26, tn27, tn28, tn29, tn30, tn31, tn32, tn33, tn34, tn35, tn36, tn37, tn38, tn39, tn40, tn41, tn42, tn43, tn44, tn45, tn46, tn47, tn48, tn49, tn50, tn51, tn52, tn53, tn54, tn55, tn56, tn57, tn58, tn59, tn60, lH_eq, true_and, and_true]
    exact ⟨fun _ => ⟨e1, e2, k h (Fr'.refl _ _)⟩, fun z => absurd (by decide) z⟩
  | l + 1, i, h, hi, H, e1, e2, k => by
    have HC := H
    obtain ⟨⟨h0, h1, h2, h3, h4, h5⟩, ⟨c1, c2, c3, c4, c5, c6, c7⟩, d1, d2, d3⟩ := H
    have hr5 := hA.1
    have mp := (hM.2.1 r hr).2.1
    have ep : hI h (t + 1 + 2) r = M 2 r := (c7.2.1.2.1 r hr).2.1
    have h60 : (60 < nI i) = (60 < i) := nI_lt_iff (a := 60) (by decide) (by omega)
    have ti : (nI i).toInt = i := nI_toInt (by omega)
    have ta := t_add (a := M 2 r) (b := nI i) (by omega) (by omega)
    have h99 : (M 2 r + nI i ≤ 99) = ((M 2 r).toInt + i ≤ 99) := by rw [Int32.le_iff_toInt_le, ta, ti, t_99]
    refine wX2_fewestSeconds_3 (by omega) f (nI r) (nI n) W (nI i) ?_
    simp only [rt_i, rt_b0, rt_b1, rt_v, rt_l, rt_o, rt_a, rV_none, rI_some, rL_some, rR_some, rT_some, rt_bI, hIf_sL, hIf_sR, hS_sI, hS_sL, hS_sR, hS_cpI, hR_sI, hR_sL, hR_cpI, hL_sI, hL_sR, hL_cpI, hI_sL, hI_sR, hN_sI, hN_sL, hN_sR, hN_cpI, hU_sI, hU_sL, hU_sR, hU_cpI, tn0, tn1, tn2, tn3, tn4, tn5, tn6, tn7, tn8, tn9, tn10, tn11, tn12, tn13, tn14, tn15, tn16, tn17, tn18, tn19, tn20, tn21, tn22, tn23, tn24, tn25, tn26, tn27, tn28, tn29, tn30, tn31, tn32, tn33, tn34, tn35, tn36, tn37, tn38, tn39, tn40, tn41, tn42, tn43, tn44, tn45, tn46, tn47, tn48, tn49, tn50, tn51, tn52, tn53, tn54, tn55, tn56, tn57, tn58, tn59, tn60, lH_eq, true_and, and_true, h0, h1, h2, h3, twq_0 c3, twq_1 c3, twq_2 c3, twq_3 c3, twq_4 c3, twq_5 c3, twq_6 c3, twq_7 c3, twq_8 c3, twq_9 c3, twq_10 c3, moq_0 c3.mom, moq_1 c3.mom, moq_2 c3.mom, moq_3 c3.mom, moq_4 c3.mom, moq_5 c3.mom, moq_6 c3.mom, moq_7 c3.mom, moq_8 c3.mom, moq_9 c3.mom, moq_10 c3.mom, vp_in_nI (show r < 5 by omega) (show 5 < 2 ^ 31 by omega), nI_clamp (show r < 2 ^ 31 by omega), ep, h60, h99]
    refine ⟨fun z => absurd z (by omega), fun _ => ⟨fun z => ?_, fun z => ?_⟩⟩
    · refine sp_reaches (by omega) f t a ru nr nw r n A M R (M 2 r + nI i) W hD hW (by omega) hn hr hA hM HC (fun h' g => ?_)
      simp only [rI_some, bI0, nI_1]
      refine ⟨fun y => ?_, fun y => ?_⟩
      · refine fs_loop hd f t a ru nr nw r n A M R W hD hW hn hr hA hM l (i + 1) h' (by omega) (HC.fr g) (g.2.2.1.trans e1) (g.2.2.2.1.trans e2) (fun h2 g2 => ?_)
        have := k h2 (g.trans g2)
        rwa [foF, if_neg (by simp [ndG, y])] at this
      · have := k h' g
        rw [foF, if_pos (by simp [ndG, z, Decidable.not_not.mp y])] at this
        exact ⟨g.2.2.1.trans e1, g.2.2.2.1.trans e2, this⟩
    · have := k h (Fr'.refl _ _)
      rw [foF_none _ _ (fun j hj => by simp [ndG]; omega)] at this
      exact ⟨e1, e2, this⟩
theorem sp_fewestSeconds {d : Nat} {h : AH} {Q : Option Value → AH → Prop} (hd : 12 ≤ d) (f t a ru nr nw r n : Nat) (A M : PC) (R : Option (List (List (Nat × Nat) × List (Nat × Nat)))) (W : Int32) {D : Int} (hD : D ≤ 50000) (hW : 1 ≤ W.toInt ∧ W.toInt ≤ 9999) (hn : n ≤ 60) (hr : r < nr) (hA : hilOk nr nw A) (hM : momOk D nr nw M) (H : FC h f t a ru nr nw A M R) (k : ∀ h', Fr' h h' (FB f) → Q (some (.int (foV (-2) (foF (ndG R A nr nw M r n W) 61 0)))) h') : Calls d nX2_fewestSeconds [.ref f, .int (nI r), .int (nI n), .int W] h (hN h) (hU h) Q := by
  obtain ⟨e, rfl⟩ : ∃ e, d = e + 1 := ⟨d - 1, by omega⟩
  exact wX2_fewestSeconds (by omega) f (nI r) (nI n) W (fs_loop (by omega) f t a ru nr nw r n A M R W hD hW hn hr hA hM 61 0 h (by omega) H rfl rfl k)
/-- seconds lent -/
def gvM (M : PC) (j r : Nat) (x : Int32) : PC := fun k i => if k = 2 then gvF (M 2) j r x i else M k i
def blF (w0 : Int32) (le : Nat → Option Int32) : Nat → Int32 × Int32
  | 0 => (-1, w0)
  | n + 1 => match le n with
    | none => blF w0 le n
    | some v => if (blF w0 le n).2 < v then (nI n, v) else blF w0 le n
noncomputable def leL (R : Option (List (List (Nat × Nat) × List (Nat × Nat)))) (A : PC) (nr nw : Nat) (M : PC) (r n j : Nat) : Option Int32 := if j ≠ r ∧ -99 ≤ M 2 j - 3 ∧ M 2 r + 3 ≤ 99 then some (itF R A nr nw n (gvM M j r 3) 3 r) else none
theorem MomIs.gv {h h' : AH} {a nr nw r j : Nat} {M : PC} {x : Int32} (H : MomIs h a nr nw M) (hr : r < nr) (hj : j < nr) (hr5 : nr ≤ 5) (hw6 : nw ≤ 6) (f : Fr' h h' (fun c => c = a + 2)) (q : ∀ i, hI h' (a + 2) i = gvF (hI h (a + 2)) j r x i) : MomIs h' a nr nw (gvM M j r x) := by
  obtain ⟨H0, ⟨H1, H2, H3⟩, H4⟩ := H
  have eI : ∀ c, c ≠ a + 2 → ∀ j, hI h' c j = hI h c j := fun c hc j => f.2.2.2.2.1 c hc j
  have e2 : ∀ i, i < nr → hI h (a + 2) i = M 2 i := fun i hi => (H2 i hi).2.1
  refine ⟨H0.fr f, ⟨?_, fun i hi => ⟨?_, ?_, ?_⟩, fun i hi => ⟨?_, ?_⟩⟩, fun i h1 h2 => ?_⟩
  · show hI h' a 0 = M 0 0
    rw [eI _ (by omega)]; exact H1
  · show hI h' (a + 1) i = M 1 i
    rw [eI _ (by omega)]; exact (H2 i hi).1
  · show hI h' (a + 2) i = gvF (M 2) j r x i
    rw [q i]
    unfold gvF
    rw [e2 j hj, e2 r hr, e2 i hi]
  · show hI h' (a + 3) i = M 3 i
    rw [eI _ (by omega)]; exact (H2 i hi).2.2
  · show hI h' (a + 4) i = M 4 i
    rw [eI _ (by omega)]; exact (H3 i hi).1
  · show hI h' (a + 5) i = M 5 i
    rw [eI _ (by omega)]; exact (H3 i hi).2
  · rw [eI _ (by omega)]; exact H4 i h1 h2
theorem bl_loop {d E1 E2 : Nat} {Q : Option Value → AH → Prop} (hd : 11 ≤ d) (f t a ru nr nw r n : Nat) (A M : PC) (R : Option (List (List (Nat × Nat) × List (Nat × Nat)))) (w0 wh : Int32) (hn : n ≤ 60) (hr : r < nr) (hr5 : nr ≤ 5) (hw6 : nw ≤ 6) : ∀ (l i : Nat) (h : AH), i + l = nr → FC h f t a ru nr nw A M R → hN h = E1 → hU h = E2 → (∀ h', Fr' h h' (FB f) → Q (some (.int (if wh = 0 then (blF w0 (leL R A nr nw M r n) nr).1 else (blF w0 (leL R A nr nw M r n) nr).2))) h') → Reach d nX2_bestLender (22, [.ref f, .int (nI r), .int (nI n), .int wh, .int (blF w0 (leL R A nr nw M r n) i).1, .int (blF w0 (leL R A nr nw M r n) i).2, .int (nI i)], []) h E1 E2 Q
  | 0, i, h, hi, H, e1, e2, k => by
    have : i = nr := by omega
    subst this
    obtain ⟨⟨h0, h1, h2, h3, h4, h5⟩, ⟨c1, c2, c3, c4, c5, c6, c7⟩, d1, d2, d3⟩ := H
    refine wX2_bestLender_22 (by omega) f (nI r) (nI n) wh _ _ (nI i) ?_
    simp only [rt_i, rt_b0, rt_b1, rt_v, rt_l, rt_o, rt_a, rV_none, rI_some, rL_some, rR_some, rT_some, rt_bI, hIf_sL, hIf_sR, hS_sI, hS_sL, hS_sR, hS_cpI, hR_sI, hR_sL, hR_cpI, hL_sI, hL_sR, hL_cpI, hI_sL, hI_sR, hN_sI, hN_sL, hN_sR, hN_cpI, hU_sI, hU_sL, hU_sR, hU_cpI, tn0, tn1, tn2, tn3, tn4, tn5, tn6, tn7, tn8, tn9, tn10, tn11, tn12, tn13, tn14, tn15, tn16, tn17, tn18, tn19, tn20, tn21, tn22, tn23, tn24, tn25, tn26, tn27, tn28, tn29, tn30, tn31, tn32, tn33, tn34, tn35, tn36, tn37, tn38, tn39, tn40, tn41, tn42, tn43, tn44, tn45, tn46, tn47, tn48, tn49, tn50, tn51, tn52, tn53, tn54, tn55, tn56, tn57, tn58, tn59, tn60, lH_eq, true_and, and_true, h0, h3, h5, twq_0 c3, hiq_0 c4.1, c4.2.1, nI_le_iff (show i < 2 ^ 31 by omega) (show i < 2 ^ 31 by omega)]
    have kk := k h (Fr'.refl _ _)
    refine ⟨fun _ => ⟨fun z => ?_, fun z => ?_⟩, fun z => absurd (Nat.le_refl i) z⟩
    · rw [if_pos z] at kk; exact ⟨e1, e2, kk⟩
    · rw [if_neg z] at kk; exact ⟨e1, e2, kk⟩
  | l + 1, i, h, hi, H, e1, e2, k => by
    have HC := H
    obtain ⟨⟨h0, h1, h2, h3, h4, h5⟩, ⟨c1, c2, c3, c4, c5, c6, c7⟩, d1, d2, d3⟩ := H
    have go := fun h1 H1 e1' e2' k1 => bl_loop (E1 := E1) (E2 := E2) (Q := Q) hd f t a ru nr nw r n A M R w0 wh hn hr hr5 hw6 l (i + 1) h1 (by omega) H1 e1' e2' k1
    have hs : blF w0 (leL R A nr nw M r n) (i + 1) = match leL R A nr nw M r n i with
      | none => blF w0 (leL R A nr nw M r n) i
      | some v => if (blF w0 (leL R A nr nw M r n) i).2 < v then (nI i, v) else blF w0 (leL R A nr nw M r n) i := rfl
    refine wX2_bestLender_22 (by omega) f (nI r) (nI n) wh _ _ (nI i) ?_
    simp only [rt_i, rt_b0, rt_b1, rt_v, rt_l, rt_o, rt_a, rV_none, rI_some, rL_some, rR_some, rT_some, rt_bI, hIf_sL, hIf_sR, hS_sI, hS_sL, hS_sR, hS_cpI, hR_sI, hR_sL, hR_cpI, hL_sI, hL_sR, hL_cpI, hI_sL, hI_sR, hN_sI, hN_sL, hN_sR, hN_cpI, hU_sI, hU_sL, hU_sR, hU_cpI, tn0, tn1, tn2, tn3, tn4, tn5, tn6, tn7, tn8, tn9, tn10, tn11, tn12, tn13, tn14, tn15, tn16, tn17, tn18, tn19, tn20, tn21, tn22, tn23, tn24, tn25, tn26, tn27, tn28, tn29, tn30, tn31, tn32, tn33, tn34, tn35, tn36, tn37, tn38, tn39, tn40, tn41, tn42, tn43, tn44, tn45, tn46, tn47, tn48, tn49, tn50, tn51, tn52, tn53, tn54, tn55, tn56, tn57, tn58, tn59, tn60, lH_eq, true_and, and_true, h0, h3, h5, twq_0 c3, twq_1 c3, twq_2 c3, twq_3 c3, twq_4 c3, twq_5 c3, twq_6 c3, twq_7 c3, twq_8 c3, twq_9 c3, twq_10 c3, hiq_0 c4.1, c4.2.1, nI_le_iff (show nr < 2 ^ 31 by omega) (show i < 2 ^ 31 by omega), nI_eq_iff (show i < 2 ^ 31 by omega) (show r < 2 ^ 31 by omega), nI_1]
    refine ⟨fun z => absurd z (by omega), fun _ => ⟨fun z => ?_, fun z => ?_⟩⟩
    · have hl : leL R A nr nw M r n i = none := by simp [leL, z]
      rw [hl] at hs
      rw [hs] at go
      exact go h HC e1 e2 k
    · refine sp_canLend (by omega) (t + 1) i r 3 c7.1 (by omega) (by omega) ?_
      have p1 : hI h (t + 1 + 2) i = M 2 i := (c7.2.1.2.1 i (by omega)).2.1
      have p2 : hI h (t + 1 + 2) r = M 2 r := (c7.2.1.2.1 r hr).2.1
      simp only [rI_some, bI0, p1, p2, h0, h1, h2, h3, twq_0 c3, twq_1 c3, twq_2 c3, twq_3 c3, twq_4 c3, twq_5 c3, twq_6 c3, twq_7 c3, twq_8 c3, twq_9 c3, twq_10 c3, moq_0 c2, true_and]
      refine ⟨fun y => ?_, fun y => ?_⟩
      · have hl : leL R A nr nw M r n i = none := by
          unfold leL
          rw [if_neg (fun x => y x.2)]
        rw [hl] at hs
        rw [hs] at go
        exact go h HC e1 e2 k
      · have y := Decidable.not_not.mp y
        have hl : leL R A nr nw M r n i = some (itF R A nr nw n (gvM M i r 3) 3 r) := by
          unfold leL
          rw [if_pos ⟨z, y⟩]
        rw [hl] at hs
        simp only at hs
        refine fc_become (by omega) f t a ru nr nw A M R HC (fun h1' g gf HC1 HM1 => ?_)
        simp only [rV_none, g.1, g.2.1, h0, h2, moq_0 c2, true_and]
        refine sp_give (by omega) (f + 6) i r 3 HM1.1 (by omega) (by omega) (fun h2' g2 q2 => ?_)
        have HM2 := HM1.gv hr (by omega) hr5 hw6 g2 q2
        have g2' := g2.mono (T := FB f) (fun c z => by unfold FB; omega)
        simp only [rV_none, g2.1, g2.2.1, g.1, g.2.1, h0, true_and]
        refine sp_go (by omega) f t a ru nr nw A M _ R n (by omega) (HC1.fr g2') HM2 (fun h3' g3 gf3 q3 => ?_)
        have ew : hI h3' (f + 6 + 3) r = itF R A nr nw n (gvM M i r 3) 3 r := (q3.2.1.2.1 r hr).2.2
        simp only [rV_none, g3.1, g3.2.1, g2.1, g2.2.1, g.1, g.2.1, h0, h2, moq_0 c2, moq_1 c2, moq_2 c2, moq_3 c2, moq_4 c2, moq_5 c2, moq_6 c2, moq_7 c2, moq_8 c2, moq_9 c2, moq_10 c2, vp_in_nI (show r < 5 by omega) (show 5 < 2 ^ 31 by omega), nI_clamp (show r < 2 ^ 31 by omega), ew, true_and]
        have gA := (g.trans g2').trans g3
        rw [hs] at go
        refine ⟨fun x => ?_, fun x => ?_⟩
        · rw [if_neg (Int32.not_lt.mpr x)] at go
          exact go h3' (HC.fr gA) (gA.2.2.1.trans e1) (gA.2.2.2.1.trans e2) (fun h' g4 => k h' (gA.trans g4))
        · rw [if_pos (i32_lt_of x)] at go
          exact go h3' (HC.fr gA) (gA.2.2.1.trans e1) (gA.2.2.2.1.trans e2) (fun h' g4 => k h' (gA.trans g4))
theorem sp_bestLender {d : Nat} {h : AH} {Q : Option Value → AH → Prop} (hd : 12 ≤ d) (f t a ru nr nw r n : Nat) (A M : PC) (R : Option (List (List (Nat × Nat) × List (Nat × Nat)))) (wh : Int32) (hn : n ≤ 60) (hr : r < nr) (H : FC h f t a ru nr nw A M R) (HN : MomIs h (f + 6) nr nw M) (k : ∀ h', Fr' h h' (FB f) → Q (some (.int (if wh = 0 then (blF (itF R A nr nw n M 3 r) (leL R A nr nw M r n) nr).1 else (blF (itF R A nr nw n M 3 r) (leL R A nr nw M r n) nr).2))) h') : Calls d nX2_bestLender [.ref f, .int (nI r), .int (nI n), .int wh] h (hN h) (hU h) Q := by
  obtain ⟨e, rfl⟩ : ∃ e, d = e + 1 := ⟨d - 1, by omega⟩
  have HC := H
  obtain ⟨⟨h0, h1, h2, h3, h4, h5⟩, ⟨c1, c2, c3, c4, c5, c6, c7⟩, d1, d2, d3⟩ := H
  have b1 := c4.2.2.2.1
  have b2 := c4.2.2.2.2.1
  refine wX2_bestLender (by omega) f (nI r) (nI n) wh ?_
  simp only [rt_i, rt_b0, rt_b1, rt_v, rt_l, rt_o, rt_a, rV_none, rI_some, rL_some, rR_some, rT_some, rt_bI, hIf_sL, hIf_sR, hS_sI, hS_sL, hS_sR, hS_cpI, hR_sI, hR_sL, hR_cpI, hL_sI, hL_sR, hL_cpI, hI_sL, hI_sR, hN_sI, hN_sL, hN_sR, hN_cpI, hU_sI, hU_sL, hU_sR, hU_cpI, tn0, tn1, tn2, tn3, tn4, tn5, tn6, tn7, tn8, tn9, tn10, tn11, tn12, tn13, tn14, tn15, tn16, tn17, tn18, tn19, tn20, tn21, tn22, tn23, tn24, tn25, tn26, tn27, tn28, tn29, tn30, tn31, tn32, tn33, tn34, tn35, tn36, tn37, tn38, tn39, tn40, tn41, tn42, tn43, tn44, tn45, tn46, tn47, tn48, tn49, tn50, tn51, tn52, tn53, tn54, tn55, tn56, tn57, tn58, tn59, tn60, lH_eq, true_and, and_true, h0]
  refine sp_go (by omega) f t a ru nr nw A M M R n (by omega) HC HN (fun h1' g gf q => ?_)
  have ew : hI h1' (f + 6 + 3) r = itF R A nr nw n M 3 r := (q.2.1.2.1 r hr).2.2
  simp only [rV_none, g.1, g.2.1, h0, h2, moq_0 c2, moq_1 c2, moq_2 c2, moq_3 c2, moq_4 c2, moq_5 c2, moq_6 c2, moq_7 c2, moq_8 c2, moq_9 c2, moq_10 c2, vp_in_nI (show r < 5 by omega) (show 5 < 2 ^ 31 by omega), nI_clamp (show r < 2 ^ 31 by omega), ew, true_and]
  exact bl_loop (by omega) f t a ru nr nw r n A M R _ wh hn hr b1 b2 nr 0 h1' (by omega) (HC.fr g) g.2.2.1 g.2.2.2.1 (fun h' g2 => k h' (g.trans g2))

/-! days that go on, on a trial -/
def FutAt (h : AH) (f : Nat) : Prop := hS h f = (12, 5) ∧ hR h f 0 = f + 1 ∧ hR h f 1 = f + 6 ∧ CouAt h (f + 1) ∧ MomAt h (f + 6)
def FB (f : Nat) : Nat → Prop := fun c => c = f ∨ (f + 3 ≤ c ∧ c ≤ f + 11)
def FC (h : AH) (f t a ru nr nw : Nat) (A M : PC) (R : Option (List (List (Nat × Nat) × List (Nat × Nat)))) : Prop := (hS h f = (12, 5) ∧ hR h f 0 = f + 1 ∧ hR h f 1 = f + 6 ∧ hR h f 2 = t ∧ hR h f 3 = ru ∧ hR h t 0 = a) ∧ (CouAt h (f + 1) ∧ MomAt h (f + 6) ∧ TwnAt h t ∧ HilIs h a nr nw A ∧ RuIs h ru R ∧ OrdIs h (f + 1) nr (fun _ => none) ∧ MomIs h (t + 1) nr nw M) ∧ (f + 12 ≤ a ∨ a + 6 ≤ f) ∧ (f + 12 ≤ t ∨ t + 11 ≤ f) ∧ (ru ≠ 0 → f + 12 ≤ ru ∨ ru + 3 ≤ f)
theorem OrdIs.fr {h h' : AH} {c nr : Nat} {od : Nat → Option Int32} {S : Nat → Prop} (H : OrdIs h c nr od) (f : Fr' h h' S) (hs : ¬ S (c + 1)) : OrdIs h' c nr od := fun j hj => by
  rw [f.2.2.2.2.1 (c + 1) hs]; exact H j hj
theorem FC.fr {h h' : AH} {f t a ru nr nw : Nat} {A M : PC} {R : Option (List (List (Nat × Nat) × List (Nat × Nat)))} (H : FC h f t a ru nr nw A M R) (g : Fr' h h' (FB f)) : FC h' f t a ru nr nw A M R := by
  obtain ⟨⟨h0, h1, h2, h3, h4, h5⟩, ⟨c1, c2, c3, c4, c5, c6, c7⟩, d1, d2, d3⟩ := H
  have b1 := c4.2.2.2.1
  have b2 := c4.2.2.2.2.1
  refine ⟨⟨?_, ?_, ?_, ?_, ?_, ?_⟩, ⟨c1.fr g, c2.fr g, c3.fr g, c4.fr g (fun b z1 z2 z => by unfold FB at z; omega), c5.fr g (fun z => ?_), c6.fr g (fun z => by unfold FB at z; omega), c7.fr b1 b2 g (fun b z1 z2 z => by unfold FB at z; omega)⟩, d1, d2, d3⟩
  · rw [g.1]; exact h0
  · rw [g.2.1]; exact h1
  · rw [g.2.1]; exact h2
  · rw [g.2.1]; exact h3
  · rw [g.2.1]; exact h4
  · rw [g.2.1]; exact h5
  · have := d3 z
    unfold FB
    omega
noncomputable def itF (R : Option (List (List (Nat × Nat) × List (Nat × Nat)))) (A : PC) (nr nw : Nat) : Nat → PC → PC
  | 0, M => M
  | n + 1, M => paF R A nr nw (fun _ => none) (itF R A nr nw n M)
/-- one day of the trial -/
theorem fc_pass {d : Nat} {h : AH} {Q : Option Value → AH → Prop} (hd : 10 ≤ d) (f t a ru nr nw : Nat) (A M N : PC) (R : Option (List (List (Nat × Nat) × List (Nat × Nat)))) (H : FC h f t a ru nr nw A M R) (HN : MomIs h (f + 6) nr nw N) (k : ∀ h' v, Fr' h h' (FB f) → (∀ j, hI h' f j = hI h f j) → MomIs h' (f + 6) nr nw (paF R A nr nw (fun _ => none) N) → Q (some (.int v)) h') : Calls d nX1_pass [.ref (f + 1), .ref a, .ref (f + 6), .ref ru] h (hN h) (hU h) Q := by
  obtain ⟨⟨h0, h1, h2, h3, h4, h5⟩, ⟨c1, c2, c3, c4, c5, c6, c7⟩, d1, d2, d3⟩ := H
  have dam := hil_mom_dis c4.1 c2
  refine sp_pass hd (f + 1) ru a (f + 6) nr nw R (fun _ => none) A N c1 c4 HN c5 c6 (by omega) (by omega) dam (fun z => by have := d3 z; omega) (fun h' g q => k h' _ (g.mono (fun c z => ?_)) (g.2.2.2.2.1 f (by omega)) q)
  unfold FB
  omega
theorem go_loop {d E1 E2 : Nat} {Q : Option Value → AH → Prop} (hd : 10 ≤ d) (f t a ru nr nw : Nat) (A M N : PC) (R : Option (List (List (Nat × Nat) × List (Nat × Nat)))) (days : Nat) (hdays : days ≤ 1000) : ∀ (n i : Nat) (h : AH), i + n = days → FC h f t a ru nr nw A M R → MomIs h (f + 6) nr nw (itF R A nr nw i N) → hN h = E1 → hU h = E2 → (∀ h', Fr' h h' (FB f) → (∀ j, hI h' f j = hI h f j) → MomIs h' (f + 6) nr nw (itF R A nr nw days N) → Q none h') → Reach d nX2_go (2, [.ref f, .int (nI days), .int (nI i)], []) h E1 E2 Q
  | 0, i, h, hi, H, HN, e1, e2, k => by
    have : i = days := by omega
    subst this
    refine wX2_go_2 (by omega) f (nI i) (nI i) ?_
    simp only [rt_i, rt_b0, rt_b1, rt_v, rt_l, rt_o, rt_a, rV_none, rI_some, rL_some, rR_some, rT_some, rt_bI, hIf_sL, hIf_sR, hS_sI, hS_sL, hS_sR, hS_cpI, hR_sI, hR_sL, hR_cpI, hL_sI, hL_sR, hL_cpI, hI_sL, hI_sR, hN_sI, hN_sL, hN_sR, hN_cpI, hU_sI, hU_sL, hU_sR, hU_cpI, tn0, tn1, tn2, tn3, tn4, tn5, tn6, tn7, tn8, tn9, tn10, tn11, tn12, tn13, tn14, tn15, tn16, tn17, tn18, tn19, tn20, tn21, tn22, tn23, tn24, tn25, tn26, tn27, tn28, tn29, tn30, tn31, tn32, tn33, tn34, tn35, tn36, tn37, tn38, tn39, tn40, tn41, tn42, tn43, tn44, tn45, tn46, tn47, tn48, tn49, tn50, tn51, tn52, tn53, tn54, tn55, tn56, tn57, tn58, tn59, tn60, lH_eq, true_and, and_true, nI_le_iff (show i < 2 ^ 31 by omega) (show i < 2 ^ 31 by omega)]
    exact ⟨fun _ => ⟨e1, e2, k h (Fr'.refl _ _) (fun _ => rfl) HN⟩, fun z => absurd (Nat.le_refl i) z⟩
  | n + 1, i, h, hi, H, HN, e1, e2, k => by
    refine wX2_go_2 (by omega) f (nI days) (nI i) ?_
    have HC := H
    obtain ⟨⟨h0, h1, h2, h3, h4, h5⟩, ⟨c1, c2, c3, c4, c5, c6, c7⟩, d1, d2, d3⟩ := H
    simp only [rt_i, rt_b0, rt_b1, rt_v, rt_l, rt_o, rt_a, rV_none, rI_some, rL_some, rR_some, rT_some, rt_bI, hIf_sL, hIf_sR, hS_sI, hS_sL, hS_sR, hS_cpI, hR_sI, hR_sL, hR_cpI, hL_sI, hL_sR, hL_cpI, hI_sL, hI_sR, hN_sI, hN_sL, hN_sR, hN_cpI, hU_sI, hU_sL, hU_sR, hU_cpI, tn0, tn1, tn2, tn3, tn4, tn5, tn6, tn7, tn8, tn9, tn10, tn11, tn12, tn13, tn14, tn15, tn16, tn17, tn18, tn19, tn20, tn21, tn22, tn23, tn24, tn25, tn26, tn27, tn28, tn29, tn30, tn31, tn32, tn33, tn34, tn35, tn36, tn37, tn38, tn39, tn40, tn41, tn42, tn43, tn44, tn45, tn46, tn47, tn48, tn49, tn50, tn51, tn52, tn53, tn54, tn55, tn56, tn57, tn58, tn59, tn60, lH_eq, true_and, and_true, h0, h1, h2, h3, h4, h5, twq_0 c3, coq_0 c1, nI_le_iff (show days < 2 ^ 31 by omega) (show i < 2 ^ 31 by omega)]
    refine ⟨fun z => absurd z (by omega), fun _ => ?_⟩
    refine fc_pass (by omega) f t a ru nr nw A M _ R HC HN (fun h1 v g gf q => ?_)
    simp only [rI_some, nI_1]
    exact go_loop hd f t a ru nr nw A M N R days hdays n (i + 1) h1 (by omega) (HC.fr g) q (g.2.2.1.trans e1) (g.2.2.2.1.trans e2) (fun h' g2 gf2 q2 => k h' (g.trans g2) (fun j => (gf2 j).trans (gf j)) q2)
theorem sp_go {d : Nat} {h : AH} {Q : Option Value → AH → Prop} (hd : 11 ≤ d) (f t a ru nr nw : Nat) (A M N : PC) (R : Option (List (List (Nat × Nat) × List (Nat × Nat)))) (days : Nat) (hdays : days ≤ 1000) (H : FC h f t a ru nr nw A M R) (HN : MomIs h (f + 6) nr nw N) (k : ∀ h', Fr' h h' (FB f) → (∀ j, hI h' f j = hI h f j) → MomIs h' (f + 6) nr nw (itF R A nr nw days N) → Q none h') : Calls d nX2_go [.ref f, .int (nI days)] h (hN h) (hU h) Q := by
  obtain ⟨e, rfl⟩ : ∃ e, d = e + 1 := ⟨d - 1, by omega⟩
  exact wX2_go (by omega) f (nI days) (go_loop (by omega) f t a ru nr nw A M N R days hdays days 0 h (by omega) H HN rfl rfl k)
/-- the first place from i on, of n, that holds v -/
def fwF (G : Nat → Int32) (v : Int32) : Nat → Nat → Option Nat
  | 0, _ => none
  | n + 1, i => if G i = v then some i else fwF G v n (i + 1)
noncomputable def fgF (R : Option (List (List (Nat × Nat) × List (Nat × Nat)))) (A : PC) (nr nw : Nat) (v wh : Int32) : Nat → PC → Int32
  | 0, _ => -2
  | n + 1, N => match fwF (paF R A nr nw (fun _ => none) N 5) v nw 0 with
    | some w => if wh = 0 then N 0 0 else nI w
    | none => fgF R A nr nw v wh n (paF R A nr nw (fun _ => none) N)
theorem fgw_loop {d E1 E2 : Nat} {Q : Option Value → AH → Prop} {h : AH} (hd : 4 ≤ d) (f t a ru nr nw : Nat) (A M N : PC) (R : Option (List (List (Nat × Nat) × List (Nat × Nat)))) (H : FC h f t a ru nr nw A M R) (HN : MomIs h (f + 6) nr nw N) (v wh dd today : Int32) (e1 : hN h = E1) (e2 : hU h = E2) (k0 : fwF (N 5) v nw 0 = none → Reach d nX2_firstGot (2, [.ref f, .int v, .int wh, .int (dd + 1), .float 0, .float 0], []) h E1 E2 Q) (k1 : ∀ w, fwF (N 5) v nw 0 = some w → Q (some (.int (if wh = 0 then today else nI w))) h) : ∀ n i : Nat, i + n = nw → fwF (N 5) v nw 0 = fwF (N 5) v n i → Reach d nX2_firstGot (25, [.ref f, .int v, .int wh, .int dd, .int today, .int (nI i)], []) h E1 E2 Q
  | 0, i, hi, he => by
    have : i = nw := by omega
    subst this
    obtain ⟨⟨h0, h1, h2, h3, h4, h5⟩, ⟨c1, c2, c3, c4, c5, c6, c7⟩, d1, d2, d3⟩ := H
    have b2 := c4.2.2.2.2.1
    refine wX2_firstGot_25 hd f v wh dd today (nI i) ?_
    simp only [rt_i, rt_b0, rt_b1, rt_v, rt_l, rt_o, rt_a, rV_none, rI_some, rL_some, rR_some, rT_some, rt_bI, hIf_sL, hIf_sR, hS_sI, hS_sL, hS_sR, hS_cpI, hR_sI, hR_sL, hR_cpI, hL_sI, hL_sR, hL_cpI, hI_sL, hI_sR, hN_sI, hN_sL, hN_sR, hN_cpI, hU_sI, hU_sL, hU_sR, hU_cpI, tn0, tn1, tn2, tn3, tn4, tn5, tn6, tn7, tn8, tn9, tn10, tn11, tn12, tn13, tn14, tn15, tn16, tn17, tn18, tn19, tn20, tn21, tn22, tn23, tn24, tn25, tn26, tn27, tn28, tn29, tn30, tn31, tn32, tn33, tn34, tn35, tn36, tn37, tn38, tn39, tn40, tn41, tn42, tn43, tn44, tn45, tn46, tn47, tn48, tn49, tn50, tn51, tn52, tn53, tn54, tn55, tn56, tn57, tn58, tn59, tn60, lH_eq, true_and, and_true, h0, h1, h2, h3, h4, h5, twq_0 c3, hiq_0 c4.1, c4.2.2.1, nI_le_iff (show i < 2 ^ 31 by omega) (show i < 2 ^ 31 by omega)]
    exact ⟨fun _ => k0 he, fun z => absurd (Nat.le_refl i) z⟩
  | n + 1, i, hi, he => by
    have HC := H
    obtain ⟨⟨h0, h1, h2, h3, h4, h5⟩, ⟨c1, c2, c3, c4, c5, c6, c7⟩, d1, d2, d3⟩ := H
    have b2 := c4.2.2.2.2.1
    have e5 : hI h (f + 6 + 5) i = N 5 i := (HN.2.1.2.2 i (by omega)).2
    have ih := fgw_loop hd f t a ru nr nw A M N R HC HN v wh dd today e1 e2 k0 k1 n (i + 1) (by omega)
    refine wX2_firstGot_25 hd f v wh dd today (nI i) ?_
    simp only [rt_i, rt_b0, rt_b1, rt_v, rt_l, rt_o, rt_a, rV_none, rI_some, rL_some, rR_some, rT_some, rt_bI, hIf_sL, hIf_sR, hS_sI, hS_sL, hS_sR, hS_cpI, hR_sI, hR_sL, hR_cpI, hL_sI, hL_sR, hL_cpI, hI_sL, hI_sR, hN_sI, hN_sL, hN_sR, hN_cpI, hU_sI, hU_sL, hU_sR, hU_cpI, tn0, tn1, tn2, tn3, tn4, tn5, tn6, tn7, tn8, tn9, tn10, tn11, tn12, tn13, tn14, tn15, tn16, tn17, tn18, tn19, tn20, tn21, tn22, tn23, tn24, tn25, tn26, tn27, tn28, tn29, tn30, tn31, tn32, tn33, tn34, tn35, tn36, tn37, tn38, tn39, tn40, tn41, tn42, tn43, tn44, tn45, tn46, tn47, tn48, tn49, tn50, tn51, tn52, tn53, tn54, tn55, tn56, tn57, tn58, tn59, tn60, lH_eq, true_and, and_true, h0, h1, h2, h3, h4, h5, twq_0 c3, hiq_0 c4.1, c4.2.2.1, moq_0 c2, moq_1 c2, moq_2 c2, moq_3 c2, moq_4 c2, moq_5 c2, moq_6 c2, moq_7 c2, moq_8 c2, moq_9 c2, moq_10 c2, nI_le_iff (show nw < 2 ^ 31 by omega) (show i < 2 ^ 31 by omega), vp_in_nI (show i < 6 by omega) (show 6 < 2 ^ 31 by omega), nI_clamp (show i < 2 ^ 31 by omega), e5, nI_1]
    simp only [fwF] at he
    refine ⟨fun z => absurd z (by omega), fun _ => ⟨fun z => ?_, fun z => ⟨fun y => ?_, fun y => ?_⟩⟩⟩
    · rw [if_neg z] at he
      exact ih he
    · rw [if_pos z] at he
      have := k1 i he
      rw [if_pos y] at this
      exact ⟨e1, e2, this⟩
    · rw [if_pos z] at he
      have := k1 i he
      rw [if_neg y] at this
      exact ⟨e1, e2, this⟩
theorem fg_loop {d E1 E2 : Nat} {Q : Option Value → AH → Prop} (hd : 11 ≤ d) (f t a ru nr nw : Nat) (A M : PC) (R : Option (List (List (Nat × Nat) × List (Nat × Nat)))) (v wh : Int32) : ∀ (n i : Nat) (N : PC) (h : AH), i + n = 100 → FC h f t a ru nr nw A M R → MomIs h (f + 6) nr nw N → hN h = E1 → hU h = E2 → (∀ h', Fr' h h' (FB f) → Q (some (.int (fgF R A nr nw v wh n N))) h') → Reach d nX2_firstGot (2, [.ref f, .int v, .int wh, .int (nI i), .float 0, .float 0], []) h E1 E2 Q
  | 0, i, N, h, hi, H, HN, e1, e2, k => by
    have : i = 100 := by omega
    subst this
    refine wX2_firstGot_2 (by omega) f v wh (nI 100) ?_
    simp only [rt_i, rt_b0, rt_b1, rt_v, rt_l, rt_o, rt_a, rV_none, rI_some, rL_some, rR_some, rT_some, rt_bI, hIf_sL, hIf_sR, hS_sI, hS_sL, hS_sR, hS_cpI, hR_sI, hR_sL, hR_cpI, hL_sI, hL_sR, hL_cpI, hI_sL, hI_sR, hN_sI, hN_sL, hN_sR, hN_cpI, hU_sI, hU_sL, hU_sR, hU_cpI, tn0, tn1, tn2, tn3, tn4, tn5, tn6, tn7, tn8, tn9, tn10, tn11, tn12, tn13, tn14, tn15, tn16, tn17, tn18, tn19, tn20, tn21, tn22, tn23, tn24, tn25, tn26, tn27, tn28, tn29, tn30, tn31, tn32, tn33, tn34, tn35, tn36, tn37, tn38, tn39, tn40, tn41, tn42, tn43, tn44, tn45, tn46, tn47, tn48, tn49, tn50, tn51, tn52, tn53, tn54, tn55, tn56, tn57, tn58, tn59, tn60, lH_eq, true_and, and_true]
    exact ⟨fun _ => ⟨e1, e2, k h (Fr'.refl _ _)⟩, fun z => absurd (by decide) z⟩
  | n + 1, i, N, h, hi, H, HN, e1, e2, k => by
    have HC := H
    obtain ⟨⟨h0, h1, h2, h3, h4, h5⟩, ⟨c1, c2, c3, c4, c5, c6, c7⟩, d1, d2, d3⟩ := H
    have h10 : (100 ≤ nI i) = (100 ≤ i) := nI_le_iff (a := 100) (by decide) (by omega)
    refine wX2_firstGot_2 (by omega) f v wh (nI i) ?_
    simp only [rt_i, rt_b0, rt_b1, rt_v, rt_l, rt_o, rt_a, rV_none, rI_some, rL_some, rR_some, rT_some, rt_bI, hIf_sL, hIf_sR, hS_sI, hS_sL, hS_sR, hS_cpI, hR_sI, hR_sL, hR_cpI, hL_sI, hL_sR, hL_cpI, hI_sL, hI_sR, hN_sI, hN_sL, hN_sR, hN_cpI, hU_sI, hU_sL, hU_sR, hU_cpI, tn0, tn1, tn2, tn3, tn4, tn5, tn6, tn7, tn8, tn9, tn10, tn11, tn12, tn13, tn14, tn15, tn16, tn17, tn18, tn19, tn20, tn21, tn22, tn23, tn24, tn25, tn26, tn27, tn28, tn29, tn30, tn31, tn32, tn33, tn34, tn35, tn36, tn37, tn38, tn39, tn40, tn41, tn42, tn43, tn44, tn45, tn46, tn47, tn48, tn49, tn50, tn51, tn52, tn53, tn54, tn55, tn56, tn57, tn58, tn59, tn60, lH_eq, true_and, and_true, h0, h1, h2, moq_0 c2, h10]
    refine ⟨fun z => absurd z (by omega), fun _ => ?_⟩
    refine sp_go (by omega) f t a ru nr nw A M N R 1 (by decide) HC HN (fun h1 g _ q => ?_)
    rw [rV_none]
    have eD : hI h (f + 6) 0 = N 0 0 := HN.2.1.1
    refine fgw_loop (by omega) f t a ru nr nw A M (itF R A nr nw 1 N) R (HC.fr g) q v wh (nI i) _ (g.2.2.1.trans e1) (g.2.2.2.1.trans e2) (fun z => ?_) (fun w z => ?_) nw 0 (by omega) rfl
    · rw [nI_1]
      refine fg_loop hd f t a ru nr nw A M R v wh n (i + 1) (itF R A nr nw 1 N) h1 (by omega) (HC.fr g) q (g.2.2.1.trans e1) (g.2.2.2.1.trans e2) (fun h' g2 => ?_)
      have := k h' (g.trans g2)
      have e : fgF R A nr nw v wh (n + 1) N = fgF R A nr nw v wh n (itF R A nr nw 1 N) := by
        simp only [fgF, itF] at z ⊢
        rw [z]
      rwa [e] at this
    · have := k h1 g
      have e : fgF R A nr nw v wh (n + 1) N = if wh = 0 then N 0 0 else nI w := by
        simp only [fgF, itF] at z ⊢
        rw [z]
      rw [e, ← eD] at this
      exact this
theorem sp_firstGot {d : Nat} {h : AH} {Q : Option Value → AH → Prop} (hd : 12 ≤ d) (f t a ru nr nw : Nat) (A M N : PC) (R : Option (List (List (Nat × Nat) × List (Nat × Nat)))) (v wh : Int32) (H : FC h f t a ru nr nw A M R) (HN : MomIs h (f + 6) nr nw N) (k : ∀ h', Fr' h h' (FB f) → Q (some (.int (fgF R A nr nw v wh 100 N))) h') : Calls d nX2_firstGot [.ref f, .int v, .int wh] h (hN h) (hU h) Q := by
  obtain ⟨e, rfl⟩ : ∃ e, d = e + 1 := ⟨d - 1, by omega⟩
  exact wX2_firstGot (by omega) f v wh (fg_loop (by omega) f t a ru nr nw A M R v wh 100 0 N h (by omega) H HN rfl rfl k)

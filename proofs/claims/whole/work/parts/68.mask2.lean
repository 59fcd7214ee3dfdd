theorem qc_row2 {h h' : AH} {m nr nw : Nat} {A N N' : PC} {R : Option (List (List (Nat × Nat) × List (Nat × Nat)))} {od : Nat → Option Int32} (H : QC h m nr nw A N R od) (f : Fr' h h' (fun c => c = m + 2)) (e0 : N' 0 0 = N 0 0) (e1 : ∀ j, j < nr → N' 1 j = N 1 j ∧ N' 3 j = N 3 j ∧ hI h' (m + 2) j = N' 2 j) (e2 : ∀ j, j < nw → N' 4 j = N 4 j ∧ N' 5 j = N 5 j) : QC h' m nr nw A N' R od := by
  obtain ⟨H0, ⟨a1, a2, a3, a4, a5⟩, ⟨b0, b1, b2⟩, H3, H4⟩ := H
  have g : ∀ c, c ≠ m + 2 → ∀ j, hI h' c j = hI h c j := fun c hc j => f.2.2.2.2.1 c hc j
  have eA : rA h' m = rA h m := by
    funext k j
    unfold rA
    split <;> exact g _ (by omega) _
  refine ⟨H0.fr f, ⟨by rw [g _ (by omega)]; exact a1, by rw [g _ (by omega)]; exact a2, by rw [eA]; exact a3, by rw [eA]; exact a4, by rw [eA]; exact a5⟩, ⟨?_, fun j hj => ⟨?_, ?_, ?_⟩, fun j hj => ⟨?_, ?_⟩⟩, H3.cg (fun b h1 h2 => g b (by omega)) (g _ (by omega) 6), fun j hj => by rw [g _ (by omega)]; exact H4 j hj⟩
  · rw [e0, ← b0]; exact g (m + 1) (by omega) 3
  · rw [(e1 j hj).1, ← (b1 j hj).1]; exact g (m + 4) (by omega) j
  · exact (e1 j hj).2.2
  · rw [(e1 j hj).2.1, ← (b1 j hj).2.2]; exact g (m + 3) (by omega) j
  · rw [(e2 j hj).1, ← (b2 j hj).1]; exact g (m + 5) (by omega) j
  · rw [(e2 j hj).2, ← (b2 j hj).2]; exact g (m + 6) (by omega) j
theorem qc_setP {h : AH} {m nr nw r : Nat} {A N : PC} {R : Option (List (List (Nat × Nat) × List (Nat × Nat)))} {od : Nat → Option Int32} {v : Int32} (H : QC h m nr nw A N R od) : QC (sI h (m + 2) r v) m nr nw A (setP N r v) R od := by
  refine qc_row2 H (Fr'.sI rfl) rfl (fun j hj => ⟨rfl, rfl, ?_⟩) (fun j hj => ⟨rfl, rfl⟩)
  have : hI h (m + 2) j = N 2 j := (H.2.2.1.2.1 j hj).2.1
  rw [hI_sI, if_pos rfl, this]
  rfl
theorem foF_eq {g g' : Nat → Bool} (H : ∀ j, (∀ l, l < j → g l = false ∧ g' l = false) → g j = g' j) : ∀ n i, (∀ l, l < i → g l = false ∧ g' l = false) → foF g n i = foF g' n i
  | 0, _, _ => rfl
  | n + 1, i, hi => by
    have e := H i hi
    simp only [foF, ← e]
    by_cases c : g i = true
    · rw [if_pos c, if_pos c]
    · rw [if_neg c, if_neg c]
      refine foF_eq H n (i + 1) (fun l hl => ?_)
      by_cases c2 : l = i
      · subst c2
        rw [← e]
        simpa using c
      · exact hi l (by omega)
/-- the reference's way: a purse of 99 at most -/
noncomputable def ndH (R : Option (List (List (Nat × Nat) × List (Nat × Nat)))) (A : PC) (nr nw : Nat) (M : PC) (r n : Nat) (W : Int32) (k : Nat) : Bool := decide (W ≤ itF R A nr nw n (setP M r (if M 2 r + nI k ≤ 99 then M 2 r + nI k else 99)) 3 r)
theorem nd_eq (R : Option (List (List (Nat × Nat) × List (Nat × Nat)))) (A : PC) (nr nw : Nat) (M : PC) (r n : Nat) (W : Int32) (hp : -99 ≤ (M 2 r).toInt ∧ (M 2 r).toInt ≤ 99) : foF (ndG R A nr nw M r n W) 61 0 = foF (ndH R A nr nw M r n W) 61 0 := by
  have cond : ∀ j : Nat, j < 1000 → (M 2 r + nI j ≤ 99) = ((M 2 r).toInt + j ≤ 99) := fun j hj => by
    have ti : (nI j).toInt = j := nI_toInt (by omega)
    rw [Int32.le_iff_toInt_le, t_add (by omega) (by omega), ti, t_99]
  have agree : ∀ j : Nat, j < 1000 → (M 2 r).toInt + j ≤ 99 → ndG R A nr nw M r n W j = ndH R A nr nw M r n W j := fun j hj h => by
    unfold ndG ndH
    rw [if_pos (by rw [cond j hj]; exact h)]
    simp [h]
  -- no more than 61 places count
  have e61 : ∀ (g g' : Nat → Bool), (∀ j, j < 61 → (∀ l, l < j → g l = false ∧ g' l = false) → g j = g' j) → foF g 61 0 = foF g' 61 0 := fun g g' H => by
    have h1 : ∀ (f : Nat → Bool) n i, i + n ≤ 61 → foF f n i = foF (fun j => f j && decide (j < 61)) n i := by
      intro f n
      induction n with
      | zero => intro i _; rfl
      | succ n ih =>
        intro i hi
        simp only [foF, ih (i + 1) (by omega), show i < 61 by omega, decide_true, Bool.and_true]
    rw [h1 g 61 0 (by omega), h1 g' 61 0 (by omega)]
    refine foF_eq (fun j hj => ?_) 61 0 (fun l hl => absurd hl (Nat.not_lt_zero l))
    by_cases c : j < 61
    · simp only [c, decide_true, Bool.and_true]
      refine H j c (fun l hl => ?_)
      have := hj l hl
      simp only [show l < 61 by omega, decide_true, Bool.and_true] at this
      exact this
    · simp [c]
  refine e61 _ _ (fun j hj hl => ?_)
  by_cases c : (M 2 r).toInt + j ≤ 99
  · exact agree j (by omega) c
  · obtain ⟨J, hJ⟩ : ∃ J : Nat, (M 2 r).toInt + J = 99 := ⟨(99 - (M 2 r).toInt).toNat, by omega⟩
    have hJj : J < j := by omega
    have f1 := hl J hJj
    have eJ : M 2 r + nI J = 99 := by
      rw [← Int32.toInt_inj, t_add (by rw [nI_toInt (by omega)]; omega) (by rw [nI_toInt (by omega)]; omega), nI_toInt (by omega), t_99]
      exact hJ
    have h2 : ndH R A nr nw M r n W j = ndH R A nr nw M r n W J := by
      unfold ndH
      rw [if_neg (by rw [cond j (by omega)]; exact c), eJ, if_pos (by decide)]
    rw [h2, f1.2]
    unfold ndG
    simp [c]
noncomputable def aNeed (nr nw : Nat) (A M : PC) (R : Option (List (List (Nat × Nat) × List (Nat × Nat)))) (q n W : Int32) : Int32 := if (0 ≤ q ∧ q < nI nr) ∧ (1 ≤ n ∧ n ≤ 60) ∧ (1 ≤ W ∧ W ≤ 9999) then foV (-2) (foF (ndG R A nr nw M q.toNatClampNeg n.toNatClampNeg W) 61 0) else -1
theorem nd_loop {d E1 E2 : Nat} {Q : Option Value → AH → Prop} {h0 : AH} (hd : 15 ≤ d) (m nr nw r n : Nat) (A M : PC) (R : Option (List (List (Nat × Nat) × List (Nat × Nat)))) (W : Int32) (hr : r < nr) (hn : n ≤ 60) (H : QK h0 m nr nw A M R) (e1 : hN h0 = E1) (e2 : hU h0 = E2) (X : Int32) (k : ∀ h', Rs h0 h' m → M5 h' m → Q (some (.int X)) h') : ∀ (l i : Nat) (h : AH), i + l = 61 → Rs h0 h m → M5 h m → X = foV (-2) (foF (ndH R A nr nw M r n W) l i) → Reach d nX12_need (45, [.ref m, .int (nI r), .int (nI n), .int W, .int (-2), .int (nI i)], []) h E1 E2 Q
  | 0, i, h, hi, S, h5, hX => by
    have : i = 61 := by omega
    subst this
    refine wX12_need_45 (by omega) m (nI r) (nI n) W (-2) (nI 61) ?_
    simp only [rt_i, rt_b0, rt_b1, rt_v, rt_l, rt_o, rt_a, rV_none, rI_some, rL_some, rR_some, rT_some, rt_bI, hIf_sL, hIf_sR, hS_sI, hS_sL, hS_sR, hS_cpI, hR_sI, hR_sL, hR_cpI, hL_sI, hL_sR, hL_cpI, hI_sL, hI_sR, hN_sI, hN_sL, hN_sR, hN_cpI, hU_sI, hU_sL, hU_sR, hU_cpI, tn0, tn1, tn2, tn3, tn4, tn5, tn6, tn7, tn8, tn9, tn10, tn11, tn12, tn13, tn14, tn15, tn16, tn17, tn18, tn19, tn20, tn21, tn22, tn23, tn24, tn25, tn26, tn27, tn28, tn29, tn30, tn31, tn32, tn33, tn34, tn35, tn36, tn37, tn38, tn39, tn40, tn41, tn42, tn43, tn44, tn45, tn46, tn47, tn48, tn49, tn50, tn51, tn52, tn53, tn54, tn55, tn56, tn57, tn58, tn59, tn60, lH_eq, true_and, and_true]
    have e3 := S.1.1
    have := k h S h5
    rw [hX] at this
    exact ⟨fun _ => ⟨e3.2.2.1.trans e1, e3.2.2.2.1.trans e2, this⟩, fun z => absurd (by decide) z⟩
  | l + 1, i, h, hi, S, h5, hX => by
    have hok := H.of_r (by omega)
    have hr5 := hok.1.1
    have HQ1 := H.rs S h5
    have HM := HQ1.1.1
    have mp := (hok.2.2.1 r hr).2.1
    have ep : hI h (m + 2) r = M 2 r := (HQ1.1.2.2.1.2.1 r hr).2.1
    have h60 : (60 < nI i) = (60 < i) := nI_lt_iff (a := 60) (by decide) (by omega)
    have e3 := S.1.1
    refine wX12_need_45 (by omega) m (nI r) (nI n) W (-2) (nI i) ?_
    simp only [rt_i, rt_b0, rt_b1, rt_v, rt_l, rt_o, rt_a, rV_none, rI_some, rL_some, rR_some, rT_some, rt_bI, hIf_sL, hIf_sR, hS_sI, hS_sL, hS_sR, hS_cpI, hR_sI, hR_sL, hR_cpI, hL_sI, hL_sR, hL_cpI, hI_sL, hI_sR, hN_sI, hN_sL, hN_sR, hN_cpI, hU_sI, hU_sL, hU_sR, hU_cpI, tn0, tn1, tn2, tn3, tn4, tn5, tn6, tn7, tn8, tn9, tn10, tn11, tn12, tn13, tn14, tn15, tn16, tn17, tn18, tn19, tn20, tn21, tn22, tn23, tn24, tn25, tn26, tn27, tn28, tn29, tn30, tn31, tn32, tn33, tn34, tn35, tn36, tn37, tn38, tn39, tn40, tn41, tn42, tn43, tn44, tn45, tn46, tn47, tn48, tn49, tn50, tn51, tn52, tn53, tn54, tn55, tn56, tn57, tn58, tn59, tn60, lH_eq, true_and, and_true, mdq_0 HM, mdq_2 HM, mds_2 HM, vp_in_nI (show r < 5 by omega) (show 5 < 2 ^ 31 by omega), nI_clamp (show r < 2 ^ 31 by omega), ep, h60, nI_1]
    simp only [foF] at hX
    have body : ∀ (p : Int32), -99 ≤ p.toInt ∧ p.toInt ≤ 99 → (ndH R A nr nw M r n W i = decide (W ≤ itF R A nr nw n (setP M r p) 3 r)) → Calls d 217 [.ref m, .int (nI r), .int (nI n)] (sI h (m + 2) r p) (hN h) (hU h) (fun r3 h2 => rI r3 fun x4 => ((x4 : Int32) < W → Reach d 218 (45, [.ref m, .int (nI r), .int (nI n), .int W, .int (-2), .int (nI (i + 1))], []) h2 E1 E2 Q) ∧ (¬ (x4 : Int32) < W → Reach d 218 (45, [.ref m, .int (nI r), .int (nI n), .int W, .int (nI i), .int (nI (i + 1))], []) h2 E1 E2 Q)) := fun p hp hg => by
      refine q_wealthIn (h0 := h0) (h := sI h (m + 2) r p) (by omega) m nr nw r n A (setP M r p) R (D := 999) (by omega) (by omega) hr hok.1 (setP_ok hok.2 hp) H.1.1 (S.1.wr (Fr'.sI (S := fun c => c = m + 2) rfl) (fun c z => by omega)) (qc_setP HQ1.1) (fun h2 S2 m2 => ?_)
      have h52 : M5 h2 m := fun j hj => by rw [m2, hI_sI, if_neg (by omega)]; exact h5 j hj
      rw [rI_some]
      refine ⟨fun z => ?_, fun z => ?_⟩
      · have hb : ¬ ndH R A nr nw M r n W i = true := by rw [hg]; simp; exact z
        rw [if_neg hb] at hX
        exact nd_loop hd m nr nw r n A M R W hr hn H e1 e2 X k l (i + 1) h2 (by omega) S2 h52 hX
      · have hb : ndH R A nr nw M r n W i = true := by rw [hg]; simp; exact i32_le_of z
        rw [if_pos hb] at hX
        refine wX12_need_45 (by omega) m (nI r) (nI n) W (nI i) (nI (i + 1)) ?_
        have e4 := S2.1.1
        have kk := k h2 S2 h52
        rw [hX] at kk
        have n2 : ¬ nI i = -2 := fun y => absurd (congrArg Int32.toInt y) (by rw [nI_toInt (by omega), show (-2 : Int32).toInt = -2 by decide]; omega)
        simp only [rt_i, rt_b0, rt_b1, rt_v, rt_l, rt_o, rt_a, rV_none, rI_some, rL_some, rR_some, rT_some, rt_bI, hIf_sL, hIf_sR, hS_sI, hS_sL, hS_sR, hS_cpI, hR_sI, hR_sL, hR_cpI, hL_sI, hL_sR, hL_cpI, hI_sL, hI_sR, hN_sI, hN_sL, hN_sR, hN_cpI, hU_sI, hU_sL, hU_sR, hU_cpI, tn0, tn1, tn2, tn3, tn4, tn5, tn6, tn7, tn8, tn9, tn10, tn11, tn12, tn13, tn14, tn15, tn16, tn17, tn18, tn19, tn20, tn21, tn22, tn23, tn24, tn25, tn26, tn27, tn28, tn29, tn30, tn31, tn32, tn33, tn34, tn35, tn36, tn37, tn38, tn39, tn40, tn41, tn42, tn43, tn44, tn45, tn46, tn47, tn48, tn49, tn50, tn51, tn52, tn53, tn54, tn55, tn56, tn57, tn58, tn59, tn60, lH_eq, true_and, and_true]
        exact ⟨fun _ => ⟨e4.2.2.1.trans e1, e4.2.2.2.1.trans e2, kk⟩, fun _ => ⟨fun _ => ⟨e4.2.2.1.trans e1, e4.2.2.2.1.trans e2, kk⟩, fun y => absurd y n2⟩⟩
    have ti : (nI i).toInt = i := nI_toInt (by omega)
    have ta := t_add (a := M 2 r) (b := nI i) (by omega) (by omega)
    refine ⟨fun z => absurd z (by omega), fun _ => ⟨fun z => absurd (by trivial) z, fun _ => ⟨fun z => ?_, fun z => ?_⟩⟩⟩
    · refine body _ ?_ ?_
      · rw [Int32.le_iff_toInt_le, t_99] at z
        rw [ta, ti] at z ⊢
        omega
      · unfold ndH
        rw [if_pos z]
    · refine body _ (by rw [t_99]; omega) ?_
      unfold ndH
      rw [if_neg z]
theorem rg1_of {a b : Int32} {n : Nat} (hb : b = nI n) (hn : n < 2 ^ 31) (h : 1 ≤ a ∧ a ≤ b) : ∃ r, 1 ≤ r ∧ r ≤ n ∧ a = nI r := by
  obtain ⟨r, hr, e⟩ := rg_of hb hn ⟨Int32.le_trans (by decide) h.1, h.2⟩
  refine ⟨r, ?_, hr, e⟩
  have := h.1
  rw [e, show (1 : Int32) = nI 1 from rfl, nI_le_iff (by decide) (by omega)] at this
  exact this
theorem m_need {d : Nat} {h : AH} {Q : Option Value → AH → Prop} (hd : 16 ≤ d) (m nr nw : Nat) (A M : PC) (R : Option (List (List (Nat × Nat) × List (Nat × Nat)))) (q n W : Int32) (H : QK h m nr nw A M R) (kk : ∀ h', Rs h h' m → M5 h' m → Q (some (.int (aNeed nr nw A M R q n W))) h') (kk0 : aNeed nr nw A M R q n W = -1 → Q (some (.int (-1))) h) : Calls d nX12_need [.ref m, .int q, .int n, .int W] h (hN h) (hU h) Q := by
  obtain ⟨e, rfl⟩ : ∃ e, d = e + 1 := ⟨d - 1, by omega⟩
  have HQ := H
  obtain ⟨HC, H5, hr5, hw6, hh⟩ := H
  refine wX12_need (by omega) m q n W ?_
  simp only [rt_i, rt_b0, rt_b1, rt_v, rt_l, rt_o, rt_a, rV_none, rI_some, rL_some, rR_some, rT_some, rt_bI, hIf_sL, hIf_sR, hS_sI, hS_sL, hS_sR, hS_cpI, hR_sI, hR_sL, hR_cpI, hL_sI, hL_sR, hL_cpI, hI_sL, hI_sR, hN_sI, hN_sL, hN_sR, hN_cpI, hU_sI, hU_sL, hU_sR, hU_cpI, tn0, tn1, tn2, tn3, tn4, tn5, tn6, tn7, tn8, tn9, tn10, tn11, tn12, tn13, tn14, tn15, tn16, tn17, tn18, tn19, tn20, tn21, tn22, tn23, tn24, tn25, tn26, tn27, tn28, tn29, tn30, tn31, tn32, tn33, tn34, tn35, tn36, tn37, tn38, tn39, tn40, tn41, tn42, tn43, tn44, tn45, tn46, tn47, tn48, tn49, tn50, tn51, tn52, tn53, tn54, tn55, tn56, tn57, tn58, tn59, tn60, lH_eq, true_and, and_true, mdq_0 HC.1]
  refine m_isRunner (by omega) m nr q HC.1 HC.2.1.1 hr5 ?_
  simp only [rI_some, bI0, mdq_0 HC.1, true_and]
  refine ⟨fun z => kk0 (by unfold aNeed; rw [if_neg (fun y => z y.1)]), fun z => ?_⟩
  refine m_in32 (by omega) n 1 60 rfl rfl rfl ?_
  simp only [rI_some, bI0, mdq_0 HC.1, true_and]
  refine ⟨fun y => kk0 (by unfold aNeed; rw [if_neg (fun x => y x.2.1)]), fun y => ?_⟩
  refine m_in32 (by omega) W 1 9999 rfl rfl rfl ?_
  simp only [rI_some, bI0, mdq_0 HC.1, true_and]
  refine ⟨fun x => ?_, fun x => kk0 (by unfold aNeed; rw [if_neg (fun v => x v.2.2)])⟩
  have z := Decidable.not_not.mp z
  have y := Decidable.not_not.mp y
  have x := Decidable.not_not.mp x
  obtain ⟨r, hr, rfl⟩ := rn_of (by omega) z
  obtain ⟨nn, hn1, hn2, rfl⟩ := rg1_of (n := 60) rfl (by decide) y
  have hok := HQ.of_r (by omega)
  refine QK.keep (d := e) (by omega) HQ (fun h1 S1 m1 H1 => ?_)
  rw [rV_none]
  refine nd_loop (h0 := h) (by omega) m nr nw r nn A M R W hr hn2 HQ rfl rfl (aNeed nr nw A M R (nI r) (nI nn) W) kk 61 0 h1 (by omega) S1 (fun j hj => by rw [m1]; exact H5 j hj) ?_
  unfold aNeed
  rw [if_pos ⟨z, y, x⟩, nI_clamp (by omega), nI_clamp (by omega), nd_eq R A nr nw M r nn W (hok.2.2.1 r hr).2.1]

noncomputable def aHad (nr nw : Nat) (A M : PC) (R : Option (List (List (Nat × Nat) × List (Nat × Nat)))) (q n w wh : Int32) : Int32 := if (0 ≤ q ∧ q < nI nr) ∧ (1 ≤ n ∧ n ≤ 20) ∧ (0 ≤ w ∧ w < nI nw) ∧ (0 ≤ wh ∧ wh ≤ 1) then (if wh = 0 then nI (ctF (phG R A nr nw M q.toNatClampNeg n.toNatClampNeg w.toNatClampNeg) 61) else fpV (foF (phG R A nr nw M q.toNatClampNeg n.toNatClampNeg w.toNatClampNeg) 61 0)) else -1001
/-- the first of the first n that fits -/
def fsO (g : Nat → Bool) : Nat → Option Nat
  | 0 => none
  | n + 1 => match fsO g n with
    | some i => some i
    | none => if g n = true then some n else none
theorem fsO_ct (g : Nat → Bool) : ∀ n, (fsO g n = none) = (ctF g n = 0)
  | 0 => by simp [fsO, ctF]
  | n + 1 => by
    have ih := fsO_ct g n
    simp only [fsO, ctF]
    cases h : fsO g n with
    | some i =>
      rw [h] at ih
      simp only [reduceCtorEq] at ih ⊢
      split
      · simp
      · exact ih
    | none =>
      rw [h] at ih
      have ih : ctF g n = 0 := ih.mp rfl
      by_cases c : g n = true <;> simp [c, ih]
theorem foF_snoc (g : Nat → Bool) : ∀ n i, foF g (n + 1) i = match foF g n i with
    | some j => some j
    | none => if g (i + n) = true then some (i + n) else none
  | 0, i => by simp [foF]
  | n + 1, i => by
    have ih := foF_snoc g n (i + 1)
    show (if g i = true then some i else foF g (n + 1) (i + 1)) = _
    rw [ih]
    simp only [foF]
    by_cases c : g i = true
    · simp [c]
    · simp only [if_neg c, show i + 1 + n = i + (n + 1) by omega]
theorem fsO_fo (g : Nat → Bool) : ∀ n, fsO g n = foF g n 0
  | 0 => rfl
  | n + 1 => by
    rw [foF_snoc, ← fsO_fo g n, Nat.zero_add]
    rfl
theorem hd_loop {d E1 E2 : Nat} {Q : Option Value → AH → Prop} {h0 : AH} (hd : 14 ≤ d) (m nr nw r n w : Nat) (A M : PC) (R : Option (List (List (Nat × Nat) × List (Nat × Nat)))) (wh : Int32) (hr : r < nr) (hw : w < nw) (hn : n ≤ 20) (H : QK h0 m nr nw A M R) (e1 : hN h0 = E1) (e2 : hU h0 = E2) (k : ∀ h', Rs h0 h' m → M5 h' m → Q (some (.int (if wh = 0 then nI (ctF (phG R A nr nw M r n w) 61) else fpV (fsO (phG R A nr nw M r n w) 61)))) h') : ∀ (l i : Nat) (h : AH), i + l = 61 → Rs h0 h m → M5 h m → Reach d nX12_had (59, [.ref m, .int (nI r), .int (nI n), .int (nI w), .int wh, .int (nI (ctF (phG R A nr nw M r n w) i)), .int (fpV (fsO (phG R A nr nw M r n w) i)), .int (puI i), .float 0], []) h E1 E2 Q
  | 0, i, h, hi, S, h5 => by
    have : i = 61 := by omega
    subst this
    have e3 := S.1.1
    refine wX12_had_59 (by omega) m (nI r) (nI n) (nI w) wh _ _ (puI 61) ?_
    simp only [rt_i, rt_b0, rt_b1, rt_v, rt_l, rt_o, rt_a, rV_none, rI_some, rL_some, rR_some, rT_some, rt_bI, hIf_sL, hIf_sR, hS_sI, hS_sL, hS_sR, hS_cpI, hR_sI, hR_sL, hR_cpI, hL_sI, hL_sR, hL_cpI, hI_sL, hI_sR, hN_sI, hN_sL, hN_sR, hN_cpI, hU_sI, hU_sL, hU_sR, hU_cpI, tn0, tn1, tn2, tn3, tn4, tn5, tn6, tn7, tn8, tn9, tn10, tn11, tn12, tn13, tn14, tn15, tn16, tn17, tn18, tn19, tn20, tn21, tn22, tn23, tn24, tn25, tn26, tn27, tn28, tn29, tn30, tn31, tn32, tn33, tn34, tn35, tn36, tn37, tn38, tn39, tn40, tn41, tn42, tn43, tn44, tn45, tn46, tn47, tn48, tn49, tn50, tn51, tn52, tn53, tn54, tn55, tn56, tn57, tn58, tn59, tn60, lH_eq, true_and, and_true]
    have kk := k h S h5
    refine ⟨fun _ => ⟨fun z => ?_, fun z => ?_⟩, fun z => absurd (by decide) z⟩
    · rw [if_neg z] at kk; exact ⟨e3.2.2.1.trans e1, e3.2.2.2.1.trans e2, kk⟩
    · rw [if_pos z] at kk; exact ⟨e3.2.2.1.trans e1, e3.2.2.2.1.trans e2, kk⟩
  | l + 1, i, h, hi, S, h5 => by
    have HQ1 := H.rs S h5
    have HM := HQ1.1.1
    have hok := H.of_r (by omega)
    have hr5 := hok.1.1
    have hw6 := hok.1.2.1
    have h40 : (40 < puI i) = False := eq_false (by rw [Int32.lt_iff_toInt_lt, puI_toInt (by omega), show (40 : Int32).toInt = 40 by decide]; omega)
    have tp := puI_toInt (i := i) (by omega)
    have cl := ctF_le (phG R A nr nw M r n w) i
    refine wX12_had_59 (by omega) m (nI r) (nI n) (nI w) wh _ _ (puI i) ?_
    simp only [rt_i, rt_b0, rt_b1, rt_v, rt_l, rt_o, rt_a, rV_none, rI_some, rL_some, rR_some, rT_some, rt_bI, hIf_sL, hIf_sR, hS_sI, hS_sL, hS_sR, hS_cpI, hR_sI, hR_sL, hR_cpI, hL_sI, hL_sR, hL_cpI, hI_sL, hI_sR, hN_sI, hN_sL, hN_sR, hN_cpI, hU_sI, hU_sL, hU_sR, hU_cpI, tn0, tn1, tn2, tn3, tn4, tn5, tn6, tn7, tn8, tn9, tn10, tn11, tn12, tn13, tn14, tn15, tn16, tn17, tn18, tn19, tn20, tn21, tn22, tn23, tn24, tn25, tn26, tn27, tn28, tn29, tn30, tn31, tn32, tn33, tn34, tn35, tn36, tn37, tn38, tn39, tn40, tn41, tn42, tn43, tn44, tn45, tn46, tn47, tn48, tn49, tn50, tn51, tn52, tn53, tn54, tn55, tn56, tn57, tn58, tn59, tn60, lH_eq, true_and, and_true, mdq_0 HM, mdq_2 HM, mds_2 HM, vp_in_nI (show r < 5 by omega) (show 5 < 2 ^ 31 by omega), nI_clamp (show r < 2 ^ 31 by omega), h40]
    refine ⟨fun z => z.elim, fun _ => ?_⟩
    have f2 : Fr' h (sI h (m + 2) r (puI i)) (fun c => c = m + 2) := Fr'.sI rfl
    refine q_days (h0 := h0) (by omega) m nr nw n A (setP M r (puI i)) R (D := 999) (by omega) (by omega) hok.1 (setP_ok hok.2 (by omega)) H.1.1 (S.1.wr f2 (fun c z => by omega)) (qc_setP HQ1.1) (fun h2 S2 H2 m2 _ => ?_)
    have HM2 := H2.1
    have eg : hI h2 (m + 6) w = itF R A nr nw n (setP M r (puI i)) 5 w := (H2.2.2.1.2.2 w hw).2
    have c0 : (nI (ctF (phG R A nr nw M r n w) i) = 0) = (ctF (phG R A nr nw M r n w) i = 0) := nI_eq_iff (b := 0) (by omega) (by decide)
    have hct := fsO_ct (phG R A nr nw M r n w) i
    simp only [rV_none, rt_i, rt_b0, rt_b1, rt_v, rt_l, rt_o, rt_a, rV_none, rI_some, rL_some, rR_some, rT_some, rt_bI, hIf_sL, hIf_sR, hS_sI, hS_sL, hS_sR, hS_cpI, hR_sI, hR_sL, hR_cpI, hL_sI, hL_sR, hL_cpI, hI_sL, hI_sR, hN_sI, hN_sL, hN_sR, hN_cpI, hU_sI, hU_sL, hU_sR, hU_cpI, tn0, tn1, tn2, tn3, tn4, tn5, tn6, tn7, tn8, tn9, tn10, tn11, tn12, tn13, tn14, tn15, tn16, tn17, tn18, tn19, tn20, tn21, tn22, tn23, tn24, tn25, tn26, tn27, tn28, tn29, tn30, tn31, tn32, tn33, tn34, tn35, tn36, tn37, tn38, tn39, tn40, tn41, tn42, tn43, tn44, tn45, tn46, tn47, tn48, tn49, tn50, tn51, tn52, tn53, tn54, tn55, tn56, tn57, tn58, tn59, tn60, lH_eq, true_and, and_true, mdq_0 HM2, mdq_6 HM2, mds_6 HM2, vp_in_nI (show w < 6 by omega) (show 6 < 2 ^ 31 by omega), nI_clamp (show w < 2 ^ 31 by omega), eg, puI_1, nI_1, Int32.add_zero, c0, show (1 : Int32) = 0 ↔ False by decide, show (0 : Int32) = 0 ↔ True by decide, not_true_eq_false, not_false_eq_true, false_implies, forall_const, true_implies, and_true]
    refine ⟨fun z => ?_, fun z => ?_⟩
    · refine sv_lays (h0 := h0) (by omega) m H.1.1 S2 (fun h3 S3 f3 m3 => ?_)
      rw [rV_none]
      have go := hd_loop hd m nr nw r n w A M R wh hr hw hn H e1 e2 k l (i + 1) h3 (by omega) S3 (fun j hj => by rw [m3, m2, f2.2.2.2.2.1 (m + 32) (by omega)]; exact h5 j hj)
      have hb : ¬ phG R A nr nw M r n w i = true := by simp [phG, z]
      have ec : ctF (phG R A nr nw M r n w) (i + 1) = ctF (phG R A nr nw M r n w) i := by simp [ctF, hb]
      have ef : fsO (phG R A nr nw M r n w) (i + 1) = fsO (phG R A nr nw M r n w) i := by
        simp only [fsO, if_neg hb]
        cases fsO (phG R A nr nw M r n w) i <;> rfl
      rw [ec, ef] at go
      exact go
    · refine sv_lays (h0 := h0) (by omega) m H.1.1 S2 (fun h3 S3 f3 m3 => ?_)
      rw [rV_none]
      have go := hd_loop hd m nr nw r n w A M R wh hr hw hn H e1 e2 k l (i + 1) h3 (by omega) S3 (fun j hj => by rw [m3, m2, f2.2.2.2.2.1 (m + 32) (by omega)]; exact h5 j hj)
      have hb : phG R A nr nw M r n w i = true := by simp [phG, z]
      have ec : ctF (phG R A nr nw M r n w) (i + 1) = ctF (phG R A nr nw M r n w) i + 1 := by simp [ctF, hb]
      rw [ec] at go
      refine ⟨fun y => ?_, fun y => ?_⟩
      · have hne : fsO (phG R A nr nw M r n w) i ≠ none := fun x => y (by rw [← hct]; exact x)
        have ef : fsO (phG R A nr nw M r n w) (i + 1) = fsO (phG R A nr nw M r n w) i := by
          simp only [fsO]
          cases hx : fsO (phG R A nr nw M r n w) i with
          | none => exact absurd hx hne
          | some x => rfl
        rw [ef] at go
        exact go
      · have hne : fsO (phG R A nr nw M r n w) i = none := by rw [hct]; exact y
        have ef : fsO (phG R A nr nw M r n w) (i + 1) = some i := by simp only [fsO, hne, if_pos hb]
        rw [ef] at go
        exact go
theorem m_had {d : Nat} {h : AH} {Q : Option Value → AH → Prop} (hd : 15 ≤ d) (m nr nw : Nat) (A M : PC) (R : Option (List (List (Nat × Nat) × List (Nat × Nat)))) (q n w wh : Int32) (H : QK h m nr nw A M R) (kk : ∀ h', Rs h h' m → M5 h' m → Q (some (.int (aHad nr nw A M R q n w wh))) h') (kk0 : aHad nr nw A M R q n w wh = -1001 → Q (some (.int (-1001))) h) : Calls d nX12_had [.ref m, .int q, .int n, .int w, .int wh] h (hN h) (hU h) Q := by
  obtain ⟨e, rfl⟩ : ∃ e, d = e + 1 := ⟨d - 1, by omega⟩
  have HQ := H
  obtain ⟨HC, H5, hr5, hw6, hh⟩ := H
  refine wX12_had (by omega) m q n w wh ?_
  simp only [rt_i, rt_b0, rt_b1, rt_v, rt_l, rt_o, rt_a, rV_none, rI_some, rL_some, rR_some, rT_some, rt_bI, hIf_sL, hIf_sR, hS_sI, hS_sL, hS_sR, hS_cpI, hR_sI, hR_sL, hR_cpI, hL_sI, hL_sR, hL_cpI, hI_sL, hI_sR, hN_sI, hN_sL, hN_sR, hN_cpI, hU_sI, hU_sL, hU_sR, hU_cpI, tn0, tn1, tn2, tn3, tn4, tn5, tn6, tn7, tn8, tn9, tn10, tn11, tn12, tn13, tn14, tn15, tn16, tn17, tn18, tn19, tn20, tn21, tn22, tn23, tn24, tn25, tn26, tn27, tn28, tn29, tn30, tn31, tn32, tn33, tn34, tn35, tn36, tn37, tn38, tn39, tn40, tn41, tn42, tn43, tn44, tn45, tn46, tn47, tn48, tn49, tn50, tn51, tn52, tn53, tn54, tn55, tn56, tn57, tn58, tn59, tn60, lH_eq, true_and, and_true, mdq_0 HC.1]
  refine m_isRunner (by omega) m nr q HC.1 HC.2.1.1 hr5 ?_
  simp only [rI_some, bI0, mdq_0 HC.1, true_and]
  refine ⟨fun z => kk0 (by unfold aHad; rw [if_neg (fun y => z y.1)]), fun z => ?_⟩
  refine m_in32 (by omega) n 1 20 rfl rfl rfl ?_
  simp only [rI_some, bI0, mdq_0 HC.1, true_and]
  refine ⟨fun y => kk0 (by unfold aHad; rw [if_neg (fun x => y x.2.1)]), fun y => ?_⟩
  refine m_isWare (by omega) m nw w HC.1 HC.2.1.2.1 hw6 ?_
  simp only [rI_some, bI0, mdq_0 HC.1, true_and]
  refine ⟨fun y2 => kk0 (by unfold aHad; rw [if_neg (fun x => y2 x.2.2.1)]), fun y2 => ?_⟩
  refine m_in32 (by omega) wh 0 1 rfl rfl rfl ?_
  simp only [rI_some, bI0, mdq_0 HC.1, true_and]
  refine ⟨fun x => ?_, fun x => kk0 (by unfold aHad; rw [if_neg (fun v => x v.2.2.2)])⟩
  have z := Decidable.not_not.mp z
  have y := Decidable.not_not.mp y
  have y2 := Decidable.not_not.mp y2
  have x := Decidable.not_not.mp x
  obtain ⟨r, hr, rfl⟩ := rn_of (by omega) z
  obtain ⟨nn, hn1, hn2, rfl⟩ := rg1_of (n := 20) rfl (by decide) y
  obtain ⟨ww, hw, rfl⟩ := rn_of (by omega) y2
  have ea : aHad nr nw A M R (nI r) (nI nn) (nI ww) wh = if wh = 0 then nI (ctF (phG R A nr nw M r nn ww) 61) else fpV (fsO (phG R A nr nw M r nn ww) 61) := by
    unfold aHad
    rw [if_pos ⟨z, y, y2, x⟩, nI_clamp (by omega), nI_clamp (by omega), nI_clamp (by omega), fsO_fo]
  rw [ea] at kk
  refine QK.keep (d := e) (by omega) HQ (fun h1 S1 m1 H1 => ?_)
  simp only [rV_none]
  exact hd_loop (h0 := h) (by omega) m nr nw r nn ww A M R wh hr hw hn2 HQ rfl rfl kk 61 0 h1 (by omega) S1 (fun j hj => by rw [m1]; exact H5 j hj)
/-- how many are ahead of one at a place -/
noncomputable def rkF (M : PC) (r : Nat) (p : Int32) : Nat → Nat
  | 0 => 0
  | n + 1 => if n ≠ r ∧ ((p - M 2 n * M 1 n) * M 1 r < (p - M 2 r * M 1 r) * M 1 n ∨ (p - M 2 n * M 1 n) * M 1 r = (p - M 2 r * M 1 r) * M 1 n ∧ n < r) then rkF M r p n + 1 else rkF M r p n
noncomputable def aRank (nr : Nat) (M : PC) (q p : Int32) : Int32 := if (0 ≤ q ∧ q < nI nr) ∧ (1 ≤ p ∧ p ≤ 99) then nI (rkF M q.toNatClampNeg p nr) else -1
theorem rk_loop {d E1 E2 : Nat} {Q : Option Value → AH → Prop} {h : AH} (hd : 5 ≤ d) (m nr nw r : Nat) (A M : PC) (R : Option (List (List (Nat × Nat) × List (Nat × Nat)))) (p : Int32) (H : QK h m nr nw A M R) (hr : r < nr) (e1 : hN h = E1) (e2 : hU h = E2) (k : Q (some (.int (nI (rkF M r p nr)))) h) : ∀ n i : Nat, i + n = nr → Reach d nX12_rank (27, [.ref m, .int (nI r), .int p, .int (nI (rkF M r p i)), .int (nI i)], []) h E1 E2 Q
  | 0, i, hi => by
    have : i = nr := by omega
    subst this
    have hr5 := H.2.2.1
    have HM := H.1.1
    refine wX12_rank_27 (by omega) m (nI r) p _ (nI i) ?_
    simp only [rt_i, rt_b0, rt_b1, rt_v, rt_l, rt_o, rt_a, rV_none, rI_some, rL_some, rR_some, rT_some, rt_bI, hIf_sL, hIf_sR, hS_sI, hS_sL, hS_sR, hS_cpI, hR_sI, hR_sL, hR_cpI, hL_sI, hL_sR, hL_cpI, hI_sL, hI_sR, hN_sI, hN_sL, hN_sR, hN_cpI, hU_sI, hU_sL, hU_sR, hU_cpI, tn0, tn1, tn2, tn3, tn4, tn5, tn6, tn7, tn8, tn9, tn10, tn11, tn12, tn13, tn14, tn15, tn16, tn17, tn18, tn19, tn20, tn21, tn22, tn23, tn24, tn25, tn26, tn27, tn28, tn29, tn30, tn31, tn32, tn33, tn34, tn35, tn36, tn37, tn38, tn39, tn40, tn41, tn42, tn43, tn44, tn45, tn46, tn47, tn48, tn49, tn50, tn51, tn52, tn53, tn54, tn55, tn56, tn57, tn58, tn59, tn60, lH_eq, true_and, and_true, mdq_0 HM, mdq_1 HM, mds_1 HM, vl7_0, vl7_1, vl7_2, vl7_3, vl7_4, vl7_5, vl7_6, H.1.2.1.1, nI_le_iff (show i < 2 ^ 31 by omega) (show i < 2 ^ 31 by omega)]
    exact ⟨fun _ => ⟨e1, e2, k⟩, fun z => absurd (Nat.le_refl i) z⟩
  | n + 1, i, hi => by
    have ih := rk_loop hd m nr nw r A M R p H hr e1 e2 k n (i + 1) (by omega)
    have hr5 := H.2.2.1
    have HM := H.1.1
    have q1 := H.1.2.2.1.2.1 i (by omega)
    have q2 := H.1.2.2.1.2.1 r hr
    have a1 : hI h (m + 4) i = M 1 i := q1.1
    have a2 : hI h (m + 2) i = M 2 i := q1.2.1
    have a3 : hI h (m + 4) r = M 1 r := q2.1
    have a4 : hI h (m + 2) r = M 2 r := q2.2.1
    refine wX12_rank_27 (by omega) m (nI r) p _ (nI i) ?_
    simp only [rt_i, rt_b0, rt_b1, rt_v, rt_l, rt_o, rt_a, rV_none, rI_some, rL_some, rR_some, rT_some, rt_bI, hIf_sL, hIf_sR, hS_sI, hS_sL, hS_sR, hS_cpI, hR_sI, hR_sL, hR_cpI, hL_sI, hL_sR, hL_cpI, hI_sL, hI_sR, hN_sI, hN_sL, hN_sR, hN_cpI, hU_sI, hU_sL, hU_sR, hU_cpI, tn0, tn1, tn2, tn3, tn4, tn5, tn6, tn7, tn8, tn9, tn10, tn11, tn12, tn13, tn14, tn15, tn16, tn17, tn18, tn19, tn20, tn21, tn22, tn23, tn24, tn25, tn26, tn27, tn28, tn29, tn30, tn31, tn32, tn33, tn34, tn35, tn36, tn37, tn38, tn39, tn40, tn41, tn42, tn43, tn44, tn45, tn46, tn47, tn48, tn49, tn50, tn51, tn52, tn53, tn54, tn55, tn56, tn57, tn58, tn59, tn60, lH_eq, true_and, and_true, mdq_0 HM, mdq_1 HM, mds_1 HM, vl7_0, vl7_1, vl7_2, vl7_3, vl7_4, vl7_5, vl7_6, H.1.2.1.1, nI_le_iff (show nr < 2 ^ 31 by omega) (show i < 2 ^ 31 by omega), nI_eq_iff (show i < 2 ^ 31 by omega) (show r < 2 ^ 31 by omega), Int32.add_zero, nI_1]
    simp only [rkF] at ih
    refine ⟨fun z => absurd z (by omega), fun _ => ⟨fun z => ?_, fun z => ?_⟩⟩
    · rwa [if_neg (fun y => y.1 z)] at ih
    · refine m_isAhead (by omega) m i r p HM (by omega) (by omega) ?_
      simp only [rI_some, bI0, a1, a2, a3, a4]
      refine ⟨fun y => ?_, fun y => ?_⟩
      · rwa [if_neg (fun x => y x.2)] at ih
      · rwa [if_pos ⟨z, Decidable.not_not.mp y⟩] at ih
theorem m_rank {d : Nat} {h : AH} {Q : Option Value → AH → Prop} (hd : 7 ≤ d) (m nr nw : Nat) (A M : PC) (R : Option (List (List (Nat × Nat) × List (Nat × Nat)))) (q p : Int32) (H : QK h m nr nw A M R) (k : Q (some (.int (aRank nr M q p))) h) : Calls d nX12_rank [.ref m, .int q, .int p] h (hN h) (hU h) Q := by
  obtain ⟨e, rfl⟩ : ∃ e, d = e + 1 := ⟨d - 1, by omega⟩
  have HQ := H
  obtain ⟨HC, H5, hr5, hw6, hh⟩ := H
  unfold aRank at k
  refine wX12_rank (by omega) m q p ?_
  simp only [rt_i, rt_b0, rt_b1, rt_v, rt_l, rt_o, rt_a, rV_none, rI_some, rL_some, rR_some, rT_some, rt_bI, hIf_sL, hIf_sR, hS_sI, hS_sL, hS_sR, hS_cpI, hR_sI, hR_sL, hR_cpI, hL_sI, hL_sR, hL_cpI, hI_sL, hI_sR, hN_sI, hN_sL, hN_sR, hN_cpI, hU_sI, hU_sL, hU_sR, hU_cpI, tn0, tn1, tn2, tn3, tn4, tn5, tn6, tn7, tn8, tn9, tn10, tn11, tn12, tn13, tn14, tn15, tn16, tn17, tn18, tn19, tn20, tn21, tn22, tn23, tn24, tn25, tn26, tn27, tn28, tn29, tn30, tn31, tn32, tn33, tn34, tn35, tn36, tn37, tn38, tn39, tn40, tn41, tn42, tn43, tn44, tn45, tn46, tn47, tn48, tn49, tn50, tn51, tn52, tn53, tn54, tn55, tn56, tn57, tn58, tn59, tn60, lH_eq, true_and, and_true, mdq_0 HC.1]
  refine m_isRunner (by omega) m nr q HC.1 HC.2.1.1 hr5 ?_
  simp only [rI_some, bI0, mdq_0 HC.1, true_and]
  refine ⟨fun z => by rwa [if_neg (fun y => z y.1)] at k, fun z => ?_⟩
  refine m_in32 (by omega) p 1 99 rfl rfl rfl ?_
  simp only [rI_some, bI0, mdq_0 HC.1, true_and]
  refine ⟨fun y => ?_, fun y => by rwa [if_neg (fun x => y x.2)] at k⟩
  have z := Decidable.not_not.mp z
  have y := Decidable.not_not.mp y
  obtain ⟨r, hr, rfl⟩ := rn_of (by omega) z
  rw [if_pos ⟨z, y⟩, nI_clamp (by omega)] at k
  exact rk_loop (by omega) m nr nw r A M R p HQ hr rfl rfl k nr 0 (by omega)

theorem vl_loop {d E1 E2 : Nat} {Q : Option Value → AH → Prop} {h : AH} (hd : 7 ≤ d) (m n q : Nat) (t : Nat → Int32) (H : MTp h m n t) (hq : q ≤ n) (e22 : hI h m 22 = nI q) (e30 : hI h m 30 = 12) (F : ∀ j, j < 12 → isWd t n q j → ∀ h1, Fr' h h1 (fun c => c = m) → (∀ i, i ≠ 23 → i ≠ 28 → hI h1 m i = hI h m i) → hI h1 m 28 = hI h m 28 + 1 → hI h1 m 23 = (if hI h m 28 = 60 then rfF (hI h m 23) q 3 else hI h m 23) → Calls d nX12_entry [.ref m, .int (nI 1), .int (nI j)] (sI h1 m 22 (nI (tkE t n q))) (hN h1) (hU h1) (fun r8 h7 => rV r8 (RtOf none E1 E2 Q none h7))) (N : (∀ i, i < 12 → ¬ isWd t n q i) → Calls d nX12_fails [.ref m, .int (nI 0), .int (nI q)] h (hN h) (hU h) (fun r10 h9 => rV r10 (RtOf none E1 E2 Q none h9))) : ∀ w j : Nat, j + w = 12 → (∀ i, i < j → ¬ isWd t n q i) → Reach d nX12_value (37, [.ref m, .int (nI q), .int (nI j)], []) h E1 E2 Q := by
  have HM := H.1
  have hn4 := H.2.2.1
  intro w
  induction w with
  | zero =>
    intro j hj no
    have : j = 12 := by omega
    subst this
    refine wX12_value_37 (by omega) m (nI q) (nI 12) ?_
    simp only [mdq_0 HM, e30, true_and]
    exact ⟨fun _ => ⟨fun z => absurd rfl z, fun _ => N no⟩, fun z => absurd (by decide) z⟩
  | succ w ih =>
    intro j hj no
    have hj12 : j < 12 := by omega
    obtain ⟨s1, s2, s3, s4, s5⟩ := stI_ok j (by omega)
    have le : ((12 : Int32) ≤ nI j) = (12 ≤ j) := nI_le_iff (a := 12) (by decide) (by omega)
    have eq : (nI j = (12 : Int32)) = (j = 12) := nI_eq_iff (b := 12) (by omega) (by decide)
    refine wX12_value_37 (by omega) m (nI q) (nI j) ?_
    simp only [mdq_0 HM, e30, le, true_and]
    refine ⟨fun z => absurd z (by omega), fun _ => ?_⟩
    refine m_wordOf (by omega) j hj12 ?_
    simp only [rT_some, mdq_0 HM, true_and]
    refine m_stood (by omega) m n q j _ t rfl H (by omega) hq e22 ?_
    simp only [rI_some, bI0, mdq_0 HM, e30, eq, nI_1, true_and]
    refine ⟨fun z => ⟨fun _ => ?_, fun y => absurd y (by omega)⟩, fun z => ih (j + 1) (by omega) (fun i hi => ?_)⟩
    · have z := Decidable.not_not.mp z
      rw [← isWd_eq (show j < 18 by omega) hq] at z
      have eo : Int32.ofNat (wd j).length = nI (wd j).length := rfl
      have ee : q + (wd j).length = tkE t n q := z.2.1
      have ad : nI q + nI (wd j).length = nI (tkE t n q) := by rw [nI_add, ee]
      refine m_isCounted (by omega) m q HM (fun h1 f1 g1 g28 g23 => ?_)
      have HM1 := HM.fr f1
      simp only [rV_none, mdq_0 HM1, true_and]
      refine m_wordOf (by omega) j hj12 ?_
      simp only [rT_some, mdq_0 HM1, s3, eo, g1 22 (by decide) (by decide), e22, ad, lH_eq, hS_sI, true_and]
      exact ⟨s1, F j hj12 z h1 f1 g1 g28 g23⟩
    · by_cases u : i = j
      · rw [u, isWd_eq (show j < 18 by omega) hq]; exact z
      · exact no i (by omega)
/-- a value, where a fault stands -/
theorem m_valueF {d : Nat} {h : AH} {Q : Option Value → AH → Prop} (hd : 8 ≤ d) (m n r : Nat) (t : Nat → Int32) (fa : Int32) (H : MFd h m n t fa) (e30 : hI h m 30 = 12) (k : ∀ h', FRm h h' m r → MFd h' m n t fa → Q none h') : Calls d nX12_value [.ref m] h (hN h) (hU h) Q := by
  obtain ⟨e, rfl⟩ : ∃ e, d = e + 1 := ⟨d - 1, by omega⟩
  obtain ⟨H, ⟨p, hp, e22⟩, e23, hf⟩ := H
  have HM := H.1
  have hn4 := H.2.2.1
  have hq : sk t n p ≤ n := ru_le hp
  refine wX12_value (by omega) m ?_
  simp only [mdq_0 HM, true_and]
  refine m_blanks (by omega) m n p t H hp e22 (fun h1 f1 g1 g2 => ?_)
  have H1 := H.fr f1 (g1 21 (by decide)) (by omega)
  have HM1 := H1.1
  simp only [rV_none, mdq_0 HM1, g2, true_and]
  generalize sk t n p = q at *
  have hE := tkE_le (t := t) hq
  have e231 : hI h1 m 23 = fa := (g1 23 (by decide)).trans e23
  refine m_isDigit (by omega) m n q t H1 (by omega) g2 ?_
  simp only [rI_some, bI0, mdq_0 HM1, true_and]
  refine ⟨fun z => ?_, fun z => ?_⟩
  · refine vl_loop (by omega) m n q t H1 hq g2 ((g1 30 (by decide)).trans e30) (fun j hj hw h2 f2 g3 g28 g23 => ?_) (fun no => ?_) 12 0 rfl (fun i hi => absurd hi (Nat.not_lt_zero i))
    · have e232 : hI (sI h2 m 22 (nI (tkE t n q))) m 23 = fa := by
        rw [hI_sI, if_pos rfl, if_neg (by decide), g23, e231, rfF_st hf]
        split <;> rfl
      have f3 : Fr' h (sI h2 m 22 (nI (tkE t n q))) (fun c => c = m) := (f1.trans f2).trans (Fr'.sI rfl)
      refine m_entryF (h := sI h2 m 22 (nI (tkE t n q))) (by omega) m _ _ (HM.fr f3) (by rw [e232]; exact hf) ?_
      rw [rV_none, rt_v]
      have gg : ∀ i, i ≠ 22 → i ≠ 23 → i ≠ 28 → hI (sI h2 m 22 (nI (tkE t n q))) m i = hI h m i := fun i a b c => by rw [hI_sI, if_pos rfl, if_neg a, g3 i b c, g1 i a]
      exact ⟨f3.2.2.1, f3.2.2.2.1, k _ (FRm.m f3 (fun i a b _ _ c _ => gg i a b c)) ⟨H.fr f3 (gg 21 (by decide) (by decide) (by decide)) (by omega), ⟨_, hE.2, by rw [hI_sI, if_pos rfl, if_pos rfl]⟩, e232, hf⟩⟩
    · refine m_fails (by omega) m 0 q HM1 (fun h2 f2 g3 g4 => ?_)
      rw [e231, rfF_st hf] at g4
      have F : Fr' h h2 (fun c => c = m) := f1.trans f2
      have gg : ∀ i, i ≠ 22 → i ≠ 23 → hI h2 m i = hI h m i := fun i a b => (g3 i b).trans (g1 i a)
      rw [rV_none, rt_v]
      exact ⟨F.2.2.1, F.2.2.2.1, k h2 (FRm.m F (fun i a b _ _ _ _ => gg i a b)) ⟨H.fr F (gg 21 (by decide) (by decide)) (by omega), ⟨q, hq, (g3 22 (by decide)).trans g2⟩, g4, hf⟩⟩
  · refine m_digits (by omega) m n q t H1 hq g2 (fun h2 v p' f2 g3 hp' q1 q2 q3 q4 => ?_)
    have HM2 := HM1.fr f2
    have e232 : hI h2 m 23 = fa := by
      rw [q2, e231]
      unfold dgF
      rw [rfF_st hf, rfF_st hf]
      split
      · split <;> rfl
      · rfl
    simp only [rI_some, mdq_0 HM2, true_and]
    refine m_isCounted (by omega) m q HM2 (fun h3 f3 g5 g28 g23 => ?_)
    have HM3 := HM2.fr f3
    have e233 : hI h3 m 23 = fa := by
      rw [g23, e232, rfF_st hf]
      split <;> rfl
    simp only [rV_none, mdq_0 HM3, true_and]
    refine m_entryF (by omega) m _ _ HM3 (by rw [e233]; exact hf) ?_
    have F : Fr' h h3 (fun c => c = m) := (f1.trans f2).trans f3
    have gg : ∀ i, i ≠ 22 → i ≠ 23 → i ≠ 28 → hI h3 m i = hI h m i := fun i a b c => (g5 i b c).trans ((g3 i a b).trans (g1 i a))
    rw [rV_none, rt_v]
    exact ⟨F.2.2.1, F.2.2.2.1, k h3 (FRm.m F (fun i a b _ _ c _ => gg i a b c)) ⟨H.fr F (gg 21 (by decide) (by decide) (by decide)) (by omega), ⟨p', hp', (g5 22 (by decide) (by decide)).trans q1⟩, e233, hf⟩⟩
theorem isW_eq {t : Nat → Int32} {n q : Nat} : (tkK t n q = 2 ∧ 0 ≤ tkV t n q ∧ tkV t n q < 12) ↔ ∃ j, j < 12 ∧ isWd t n q j := by
  constructor
  · rintro ⟨h1, h2, h3⟩
    obtain ⟨j, hj, ej⟩ := rn_of (n := 12) (by decide) ⟨h2, h3⟩
    have hqn : ¬ n ≤ q := fun c => by unfold tkK at h1; rw [if_pos c] at h1; cases h1
    have hg : ¬ isDg (t q) = true := fun c => by unfold tkK at h1; rw [if_neg hqn, if_pos c] at h1; cases h1
    have hl : isLt (t q) = true := by
      by_cases c : isLt (t q) = true
      · exact c
      · unfold tkK at h1; rw [if_neg hqn, if_neg hg, if_neg c] at h1; cases h1
    have ev : tkV t n q = wvF t q (tkE t n q) 18 := by unfold tkV; rw [if_neg hg, if_pos hl]
    rw [ev, wv_iff (show j < 18 by omega)] at ej
    exact ⟨j, hj, h1, ej⟩
  · rintro ⟨j, hj, h1, h2⟩
    have hqn : ¬ n ≤ q := fun c => by unfold tkK at h1; rw [if_pos c] at h1; cases h1
    have hg : ¬ isDg (t q) = true := fun c => by unfold tkK at h1; rw [if_neg hqn, if_pos c] at h1; cases h1
    have hl : isLt (t q) = true := by
      by_cases c : isLt (t q) = true
      · exact c
      · unfold tkK at h1; rw [if_neg hqn, if_neg hg, if_neg c] at h1; cases h1
    have ev : tkV t n q = wvF t q (tkE t n q) 18 := by unfold tkV; rw [if_neg hg, if_pos hl]
    have e2 := (wv_iff (t := t) (q := q) (e := tkE t n q) (show j < 18 by omega)).mpr h2
    have key : ∀ j, j < 12 → (0 : Int32) ≤ nI j ∧ nI j < 12 := by decide
    rw [ev, e2]
    exact ⟨h1, key j hj⟩
theorem isW_val {t : Nat → Int32} {n q j : Nat} (hj : j < 12) (h : isWd t n q j) : tkV t n q = nI j := by
  obtain ⟨h1, h2⟩ := h
  have hqn : ¬ n ≤ q := fun c => by unfold tkK at h1; rw [if_pos c] at h1; cases h1
  have hg : ¬ isDg (t q) = true := fun c => by unfold tkK at h1; rw [if_neg hqn, if_pos c] at h1; cases h1
  have hl : isLt (t q) = true := by
    by_cases c : isLt (t q) = true
    · exact c
    · unfold tkK at h1; rw [if_neg hqn, if_neg hg, if_neg c] at h1; cases h1
  have ev : tkV t n q = wvF t q (tkE t n q) 18 := by unfold tkV; rw [if_neg hg, if_pos hl]
  rw [ev]
  exact (wv_iff (t := t) (q := q) (e := tkE t n q) (show j < 18 by omega)).mpr h2

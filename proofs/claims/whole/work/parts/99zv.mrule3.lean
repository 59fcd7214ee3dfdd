theorem m_value {d : Nat} {h : AH} {Q : Option Value → AH → Prop} (hd : 8 ≤ d) (m n r p st beh pa : Nat) (pile : List Nat) (cl : List (List (Nat × Nat) × List (Nat × Nat))) (su s : List (Nat × Nat)) (t : Nat → Int32) (H : MM h m n r t (p, st, pile, pa, cl, su, s)) (hb : (st = 1 ∧ beh = 2) ∨ (st = 3 ∧ beh = 4) ∨ (st = 5 ∧ beh = 6) ∨ (st = 7 ∧ beh = 4)) (e30 : hI h m 30 = 12) (k : ∀ h', FRm h h' m r → VP h' m n r t (mval t n (sk t n p) beh pile pa cl su s) → Q none h') : Calls d nX12_value [.ref m] h (hN h) (hU h) Q := by
  obtain ⟨e, rfl⟩ : ∃ e, d = e + 1 := ⟨d - 1, by omega⟩
  obtain ⟨H, ⟨e22, hp⟩, e23, ⟨e24, hr⟩, E, e28, I⟩ := H
  have HM := H.1
  have hn4 := H.2.2.1
  have hq : sk t n p ≤ n := ru_le hp
  have i2 := I.2.1.2.1
  have el := ent_lt rfl I (by omega)
  have inv : ∀ σ', mval t n (sk t n p) beh pile pa cl su s = .inr σ' → mInv σ' := fun σ' em => mval_inv I hb em hp
  have p60 : (nI pa = (60 : Int32)) = (pa = 60) := nI_eq_iff (b := 60) (by omega) (by decide)
  refine wX12_value (by omega) m ?_
  simp only [mdq_0 HM, true_and]
  refine m_blanks (by omega) m n p t H hp e22 (fun h1 f1 g1 g2 => ?_)
  have H1 := H.fr f1 (g1 21 (by decide)) (by omega)
  have HM1 := H1.1
  simp only [rV_none, mdq_0 HM1, g2, true_and]
  generalize sk t n p = q at *
  have hE := tkE_le (t := t) hq
  have e231 : hI h1 m 23 = 0 := (g1 23 (by decide)).trans e23
  have e281 : hI h1 m 28 = nI pa := (g1 28 (by decide)).trans e28
  have r22 : ∀ j, hI h1 (m + 22) j = hI h (m + 22) j := f1.2.2.2.2.1 (m + 22) (by omega)
  have r23 : ∀ j, hI h1 (m + 23) j = hI h (m + 23) j := f1.2.2.2.2.1 (m + 23) (by omega)
  refine m_isDigit (by omega) m n q t H1 (by omega) g2 ?_
  simp only [rI_some, bI0, mdq_0 HM1, true_and]
  refine ⟨fun z => ?_, fun z => ?_⟩
  · have hK : ¬ tkK t n q = 1 := by rw [tkK_1]; exact z
    refine vl_loop (by omega) m n q t H1 hq g2 ((g1 30 (by decide)).trans e30) (fun j hj hw h2 f2 g3 g28 g23 => ?_) (fun no => ?_) 12 0 rfl (fun i hi => absurd hi (Nat.not_lt_zero i))
    · have eV := isW_val hj hw
      have isw := isW_eq.mpr ⟨j, hj, hw⟩
      simp only [e231, e281, p60] at g23
      rw [e281, nI_1] at g28
      have nn : ¬ tkV t n q < 0 := Int32.not_lt.mpr isw.2.1
      have em : mval t n q beh pile pa cl su s = if 60 ≤ pa then .inl (rfF 0 q 3, []) else .inr (tkE t n q, beh, pile, pa + 1, cl, su, s ++ [(1, j)]) := by
        unfold mval
        rw [if_neg (fun c => c.2 isw), if_neg nn, if_neg hK, eV, nI_clamp (by omega)]
      have f3 : Fr' h (sI h2 m 22 (nI (tkE t n q))) (fun c => c = m) := (f1.trans f2).trans (Fr'.sI rfl)
      have gg : ∀ i, i ≠ 22 → i ≠ 23 → i ≠ 28 → hI (sI h2 m 22 (nI (tkE t n q))) m i = hI h m i := fun i a b c => by rw [hI_sI, if_pos rfl, if_neg a, g3 i b c, g1 i a]
      have x22 : hI (sI h2 m 22 (nI (tkE t n q))) m 22 = nI (tkE t n q) := by rw [hI_sI, if_pos rfl, if_pos rfl]
      have x23 : hI (sI h2 m 22 (nI (tkE t n q))) m 23 = if pa = 60 then rfF 0 q 3 else 0 := by rw [hI_sI, if_pos rfl, if_neg (by decide)]; exact g23
      have x28 : hI (sI h2 m 22 (nI (tkE t n q))) m 28 = nI (pa + 1) := by rw [hI_sI, if_pos rfl, if_neg (by decide)]; exact g28
      have FR : FRm h (sI h2 m 22 (nI (tkE t n q))) m r := FRm.m f3 (fun i a b _ _ c _ => gg i a b c)
      have H3 := H.fr f3 (gg 21 (by decide) (by decide) (by decide)) (by omega)
      have n3 : hN h2 = hN (sI h2 m 22 (nI (tkE t n q))) := rfl
      have u3 : hU h2 = hU (sI h2 m 22 (nI (tkE t n q))) := rfl
      rw [n3, u3]
      generalize sI h2 m 22 (nI (tkE t n q)) = h3 at *
      by_cases c60 : pa = 60
      · rw [em, if_pos (by omega)] at k
        rw [if_pos c60] at x23
        have ne : rfF 0 q 3 ≠ 0 := rfF_ne (fa := 0) (q := q) (c := 3) (by omega) (by omega)
        refine m_entryF (by omega) m _ _ H3.1 (by rw [x23]; exact ne) ?_
        rw [rV_none, rt_v]
        exact ⟨f3.2.2.1, f3.2.2.2.1, k h3 FR ⟨H3, ⟨_, hE.2, x22⟩, x23, ne⟩⟩
      · rw [if_neg c60] at x23
        have c6 : ¬ 60 ≤ pa := by omega
        rw [if_neg c6] at em
        have I' := inv _ em
        rw [em] at k
        refine m_entry (by omega) m n r 1 j t (flK cl ++ su ++ s) H3 x23 ((gg 24 (by decide) (by decide) (by decide)).trans e24) hr (E.cg (gg 26 (by decide) (by decide) (by decide)) (f3.2.2.2.2.1 (m + 22) (by omega)) (f3.2.2.2.2.1 (m + 23) (by omega))) (by omega) (fun h4 f4 g4 E4 => ?_)
        rw [rV_none, rt_v]
        exact ⟨f4.1.2.2.1.trans f3.2.2.1, f4.1.2.2.2.1.trans f3.2.2.2.1, k h4 (FR.trans f4) ⟨H3.frm f4, ⟨(g4 22 (by decide)).trans x22, hE.2⟩, (g4 23 (by decide)).trans x23, ⟨(g4 24 (by decide)).trans ((gg 24 (by decide) (by decide) (by decide)).trans e24), hr⟩, by rw [← List.append_assoc]; exact E4, (g4 28 (by decide)).trans x28, I'⟩⟩
    · have em : mval t n q beh pile pa cl su s = .inl (rfF 0 q 0, []) := by
        unfold mval
        rw [if_pos ⟨hK, fun c => by obtain ⟨j, hj, hw⟩ := isW_eq.mp c; exact no j hj hw⟩]
      rw [em] at k
      refine m_fails (by omega) m 0 q HM1 (fun h2 f2 g3 g4 => ?_)
      rw [e231] at g4
      have F : Fr' h h2 (fun c => c = m) := f1.trans f2
      have gg : ∀ i, i ≠ 22 → i ≠ 23 → hI h2 m i = hI h m i := fun i a b => (g3 i b).trans (g1 i a)
      rw [rV_none, rt_v]
      exact ⟨F.2.2.1, F.2.2.2.1, k h2 (FRm.m F (fun i a b _ _ _ _ => gg i a b)) ⟨H.fr F (gg 21 (by decide) (by decide)) (by omega), ⟨q, hq, (g3 22 (by decide)).trans g2⟩, g4, rfF_ne (fa := 0) (q := q) (c := 0) (by omega) (by omega)⟩⟩
  · have z := Decidable.not_not.mp z
    have hK : tkK t n q = 1 := by rw [tkK_1]; exact z
    refine m_digits (by omega) m n q t H1 hq g2 (fun h2 v p' f2 g3 hp' q1 q2 q3 q4 => ?_)
    have HM2 := HM1.fr f2
    have e282 : hI h2 m 28 = nI pa := (g3 28 (by decide) (by decide)).trans e281
    have hpE := q3 hK
    subst hpE
    rw [e231] at q2
    simp only [rI_some, mdq_0 HM2, true_and]
    refine m_isCounted (by omega) m q HM2 (fun h3 f3 g5 g28 g23 => ?_)
    have HM3 := HM2.fr f3
    simp only [rV_none, mdq_0 HM3, true_and]
    simp only [e282, p60] at g23
    rw [e282, nI_1] at g28
    have F : Fr' h h3 (fun c => c = m) := (f1.trans f2).trans f3
    have gg : ∀ i, i ≠ 22 → i ≠ 23 → i ≠ 28 → hI h3 m i = hI h m i := fun i a b c => (g5 i b c).trans ((g3 i a b).trans (g1 i a))
    have FR : FRm h h3 m r := FRm.m F (fun i a b _ _ c _ => gg i a b c)
    have H3 := H.fr F (gg 21 (by decide) (by decide) (by decide)) (by omega)
    have x22 : hI h3 m 22 = nI (tkE t n q) := (g5 22 (by decide) (by decide)).trans q1
    have bad : ∀ f, hI h3 m 23 = f → f ≠ 0 → mval t n q beh pile pa cl su s = .inl (f, []) → Calls e nX12_entry [.ref m, .int 0, .int v] h3 (hN h3) (hU h3) (fun r12 h11 => rV r12 (RtOf none (hN h) (hU h) Q none h11)) := fun f ef ne em => by
      rw [em] at k
      refine m_entryF (by omega) m _ _ HM3 (by rw [ef]; exact ne) ?_
      rw [rV_none, rt_v]
      exact ⟨F.2.2.1, F.2.2.2.1, k h3 FR ⟨H3, ⟨_, hE.2, x22⟩, ef, ne⟩⟩
    by_cases c0 : tkV t n q < 0
    · have ef : hI h2 m 23 = rfF 0 q 1 := by
        rw [q2]
        unfold dgF
        rw [if_pos hK, if_neg (Int32.not_le.mpr c0)]
      have ne : rfF 0 q 1 ≠ 0 := rfF_ne (fa := 0) (q := q) (c := 1) (by omega) (by omega)
      refine bad (rfF 0 q 1) ?_ ne ?_
      · rw [g23, ef, rfF_st ne]
        split <;> rfl
      · unfold mval
        rw [if_neg (fun c => c.1 hK), if_pos c0]
    · have ef : hI h2 m 23 = 0 := by
        rw [q2]
        unfold dgF
        rw [if_pos hK, if_pos (Int32.not_lt.mp c0)]
      rw [ef] at g23
      by_cases c60 : pa = 60
      · rw [if_pos c60] at g23
        refine bad (rfF 0 q 3) g23 (rfF_ne (fa := 0) (q := q) (c := 3) (by omega) (by omega)) ?_
        unfold mval
        rw [if_neg (fun c => c.1 hK), if_neg c0, if_pos (by omega)]
      · rw [if_neg c60] at g23
        obtain ⟨vn, hvn, evn⟩ := val_nat hK c0
        have ev : v = nI vn := (q4 hK (Int32.not_lt.mp c0)).trans evn
        have em : mval t n q beh pile pa cl su s = .inr (tkE t n q, beh, pile, pa + 1, cl, su, s ++ [(0, vn)]) := by
          unfold mval
          rw [if_neg (fun c => c.1 hK), if_neg c0, if_neg (by omega), if_pos hK, evn, nI_clamp (by omega)]
        have I' := inv _ em
        rw [em] at k
        rw [ev]
        refine m_entry (by omega) m n r 0 vn t (flK cl ++ su ++ s) H3 g23 ((gg 24 (by decide) (by decide) (by decide)).trans e24) hr (E.cg (gg 26 (by decide) (by decide) (by decide)) (F.2.2.2.2.1 (m + 22) (by omega)) (F.2.2.2.2.1 (m + 23) (by omega))) (by omega) (fun h4 f4 g4 E4 => ?_)
        rw [rV_none, rt_v]
        exact ⟨f4.1.2.2.1.trans F.2.2.1, f4.1.2.2.2.1.trans F.2.2.2.1, k h4 (FR.trans f4) ⟨H3.frm f4, ⟨(g4 22 (by decide)).trans x22, hE.2⟩, (g4 23 (by decide)).trans g23, ⟨(g4 24 (by decide)).trans ((gg 24 (by decide) (by decide) (by decide)).trans e24), hr⟩, by rw [← List.append_assoc]; exact E4, (g4 28 (by decide)).trans g28, I'⟩⟩

/-! sums of the reference -/
theorem smF {d E1 E2 : Nat} {Q : Option Value → AH → Prop} {h : AH} (hd : 4 ≤ d) (m n : Nat) (t : Nat → Int32) (fa : Int32) (H : MFd h m n t fa) (n1 : hN h = E1) (n2 : hU h = E2) (k : Q none h) : Reach d nX12_sum (4, [.ref m, .float 0], []) h E1 E2 Q := by
  refine wX12_sum_4 hd m ?_
  simp only [mdq_0 H.1.1, H.2.2.1, true_and, rt_v]
  exact ⟨fun _ => ⟨n1, n2, k⟩, fun z => absurd z H.2.2.2⟩
theorem m_sumF {d : Nat} {h : AH} {Q : Option Value → AH → Prop} (hd : 10 ≤ d) (m n r : Nat) (t : Nat → Int32) (fa : Int32) (H : MFd h m n t fa) (e30 : hI h m 30 = 12) (k : ∀ h', FRm h h' m r → MFd h' m n t fa → Q none h') : Calls d nX12_sum [.ref m] h (hN h) (hU h) Q := by
  obtain ⟨e, rfl⟩ : ∃ e, d = e + 1 := ⟨d - 1, by omega⟩
  refine wX12_sum (by omega) m ?_
  simp only [mdq_0 H.1.1, true_and]
  refine m_termF (by omega) m n r t fa H e30 (fun h1 f1 H1 => ?_)
  rw [rV_none]
  exact smF (by omega) m n t fa H1 f1.1.2.2.1 f1.1.2.2.2.1 (k h1 f1 H1)
theorem sm_go {d E1 E2 : Nat} {Q : Option Value → AH → Prop} {h : AH} (hd : 9 ≤ d) (m n r p st pa op : Nat) (c : Int32) (t : Nat → Int32) (R : Int32 × List (List (Nat × Nat) × List (Nat × Nat))) (pile : List Nat) (cl : List (List (Nat × Nat) × List (Nat × Nat))) (su s : List (Nat × Nat)) (hst : st = 1 ∨ st = 3 ∨ st = 5) (hpi : hdT pile < 5) (hsk : sk t n p = p) (H : MM h m n r t (p, st + 1, pile, pa, cl, su, s)) (hrn : rnM t n (p, st + 1, pile, pa, cl, su, s) = R) (e30 : hI h m 30 = 12) (hc : sgF t n p = c) (h0 : 0 ≤ c) (h1 : c < 128) (hg : ¬ isDg c = true) (hl : ¬ isLt c = true) (n60 : c ≠ 60) (n62 : c ≠ 62) (hop : sgO c = op) (h5 : tgO op = 5) (kF : ∀ h', FRm h h' m r → MFd h' m n t R.1 → Reach d nX12_sum (4, [.ref m, .float 0], []) h' E1 E2 Q) (kO : ∀ h' p' pa' x, FRm h h' m r → 0 < x.length → sk t n p' = p' → tgO (tkO t n p') < 6 → MM h' m n r t (p', st + 1, pile, pa', cl, su, s ++ x) → rnM t n (p', st + 1, pile, pa', cl, su, s ++ x) = R → Reach d nX12_sum (4, [.ref m, .float 0], []) h' E1 E2 Q) : Calls d nX12_term [.ref m] (sI h m 22 (nI (p + 1))) (hN h) (hU h) (fun r12 h11 => rV r12 ((hS h11 m).1 = 10 + 12 ∧ Calls d nX12_entry [.ref m, .int (nI op), .int (nI 0)] h11 (hN h11) (hU h11) (fun r14 h13 => rV r14 (Reach d nX12_sum (4, [.ref m, .float 0], []) h13 E1 E2 Q)))) := by
  have hB := H.1.2.2.2.2
  have hn4 := H.1.2.2.1
  have hp := H.2.1.2
  obtain ⟨s1, s2⟩ := sgn_eq (t := t) (n := n) (q := p) hB h0 h1 hg hl n60 n62
  obtain ⟨eE, hpn⟩ := s2 hc
  have eO : tkO t n p = op := (tkO_3 (s1.mp hc)).trans hop
  have re := rst_hd (th := 4) (l := pile) (by omega)
  have em : mstep t n (p, st + 1, pile, pa, cl, su, s) = .inr (p + 1, st, op :: pile, pa, cl, su, s) := by
    unfold mstep
    simp only
    rw [if_neg (by omega), if_neg (by omega), if_neg (by omega), hsk]
    unfold mgo
    rw [eO, h5, if_pos ⟨by omega, by omega⟩, show (5 - 1 : Nat) = 4 from rfl, re.1, re.2, List.append_nil, eE, Nat.add_sub_cancel]
  have I2 := mstep_inv H.2.2.2.2.2.2 hp em
  have rn2 : rnM t n (p + 1, st, op :: pile, pa, cl, su, s) = R := (rnM_in (show (p, st + 1, pile, pa, cl, su, s).1 ≤ n from hp) em).symm.trans hrn
  have f0 : Fr' h (sI h m 22 (nI (p + 1))) (fun c => c = m) := Fr'.sI rfl
  have g0 : ∀ j, j ≠ 22 → hI (sI h m 22 (nI (p + 1))) m j = hI h m j := fun j hj => by rw [hI_sI, if_pos rfl, if_neg hj]
  have e22 : hI (sI h m 22 (nI (p + 1))) m 22 = nI (p + 1) := by rw [hI_sI, if_pos rfl, if_pos rfl]
  obtain ⟨H1, -, e23, ⟨e24, hr⟩, E, e28, -⟩ := H
  have MM2 : MM (sI h m 22 (nI (p + 1))) m n r t (p + 1, st, op :: pile, pa, cl, su, s) := ⟨H1.fr f0 (g0 21 (by decide)) (by omega), ⟨e22, by omega⟩, (g0 23 (by decide)).trans e23, ⟨(g0 24 (by decide)).trans e24, hr⟩, E.cg (g0 26 (by decide)) (f0.2.2.2.2.1 (m + 22) (by omega)) (f0.2.2.2.2.1 (m + 23) (by omega)), (g0 28 (by decide)).trans e28, I2⟩
  have FR0 : FRm h (sI h m 22 (nI (p + 1))) m r := FRm.m f0 (fun j a _ _ _ _ _ => g0 j a)
  have ems : mstep t n (p + 1, st, op :: pile, pa, cl, su, s) = mval t n (sk t n (p + 1)) (st + 1) (op :: pile) pa cl su s := by
    unfold mstep
    simp only
    rw [if_neg (by omega), if_pos hst]
  refine m_term (h := sI h m 22 (nI (p + 1))) hd m n r (p + 1) st (st + 1) pa t R (op :: pile) cl su s (by omega) (by show tgO op < 6; omega) ems MM2 rn2 ((g0 30 (by decide)).trans e30) (fun h2 f2 V => ?_)
  have FR2 := FR0.trans f2
  rw [rV_none]
  rcases V with V | ⟨p', pa', x, V, hsk', rn3, t6⟩
  · refine ⟨by rw [mdq_0 V.1.1], ?_⟩
    refine m_entryF (by omega) m _ _ V.1.1 (by rw [V.2.2.1]; exact V.2.2.2) ?_
    rw [rV_none]
    exact kF h2 FR2 V
  · have VI := V.2.2.2.2.2.2
    obtain ⟨V1, ⟨v22, vp⟩, v23, ⟨v24, -⟩, VE, v28, -⟩ := V
    have hs2 : st + 1 = 2 ∨ st + 1 = 4 ∨ st + 1 = 6 := by omega
    have el := ent_lt rfl VI (by omega)
    refine ⟨by rw [mdq_0 V1.1], ?_⟩
    refine m_entry (by omega) m n r op 0 t _ V1 v23 v24 hr VE (by omega) (fun h3 f3 g3 E3 => ?_)
    have FR3 := FR2.trans f3
    have I4 := inv_fl VI hs2 (show 5 ≤ tgO op by omega)
    have rn4 := (rn_fl (pa := pa') (pile := pile) (cl := cl) (su := su) (s := s ++ x) vp hs2 (show 5 ≤ tgO op by omega) (by rw [hsk']; omega)).symm.trans rn3
    have MM4 : MM h3 m n r t (p', st + 1, pile, pa', cl, su, s ++ x ++ [(op, 0)]) := ⟨V1.frm f3, ⟨(g3 22 (by decide)).trans v22, vp⟩, (g3 23 (by decide)).trans v23, ⟨(g3 24 (by decide)).trans v24, hr⟩, by rw [← List.append_assoc]; exact E3, (g3 28 (by decide)).trans v28, I4⟩
    rw [rV_none]
    rw [List.append_assoc] at MM4 rn4
    exact kO h3 p' pa' _ FR3 (by simp) hsk' t6 MM4 rn4
theorem sm_loop {d E1 E2 : Nat} {Q : Option Value → AH → Prop} (hd : 9 ≤ d) (m n r st : Nat) (t : Nat → Int32) (R : Int32 × List (List (Nat × Nat) × List (Nat × Nat))) (pile : List Nat) (cl : List (List (Nat × Nat) × List (Nat × Nat))) (su : List (Nat × Nat)) (hst : st = 1 ∨ st = 3 ∨ st = 5) (hpi : hdT pile < 5) : ∀ (w p pa : Nat) (s : List (Nat × Nat)) (h : AH), 261 - s.length ≤ w → sk t n p = p → tgO (tkO t n p) < 6 → MM h m n r t (p, st + 1, pile, pa, cl, su, s) → rnM t n (p, st + 1, pile, pa, cl, su, s) = R → hI h m 30 = 12 → hN h = E1 → hU h = E2 → (∀ h', FRm h h' m r → BP h' m n r t R (st + 1) pile cl su s 5 → Q none h') → Reach d nX12_sum (4, [.ref m, .float 0], []) h E1 E2 Q := by
  intro w
  induction w using Nat.strongRecOn with
  | ind w ih =>
  intro p pa s h hw hsk t6 H hrn e30 n1 n2 k
  have HM := H.1.1
  have hB := H.1.2.2.2.2
  have hn4 := H.1.2.2.1
  have hp := H.2.1.2
  have e22 : hI h m 22 = nI p := H.2.1.1
  have e23 : hI h m 23 = 0 := H.2.2.1
  have d5 : 5 ≤ d := by omega
  have p4 : p ≤ 1000 := by omega
  have el := ent_lt rfl H.2.2.2.2.2.2 (by omega)
  have el : s.length ≤ 260 := by simp at el; omega
  have kF : ∀ h', FRm h h' m r → MFd h' m n t R.1 → Reach d nX12_sum (4, [.ref m, .float 0], []) h' E1 E2 Q := fun h' f F => smF (by omega) m n t R.1 F (f.1.2.2.1.trans n1) (f.1.2.2.2.1.trans n2) (k h' f (Or.inl F))
  have kO : ∀ h' p' pa' x, FRm h h' m r → 0 < x.length → sk t n p' = p' → tgO (tkO t n p') < 6 → MM h' m n r t (p', st + 1, pile, pa', cl, su, s ++ x) → rnM t n (p', st + 1, pile, pa', cl, su, s ++ x) = R → Reach d nX12_sum (4, [.ref m, .float 0], []) h' E1 E2 Q := fun h' p' pa' x f lt sk' t6' M' r' => by
    have ln : (s ++ x).length = s.length + x.length := List.length_append
    exact ih (261 - (s ++ x).length) (by omega) p' pa' (s ++ x) h' (Nat.le_refl _) sk' t6' M' r' (f.m30.trans e30) (f.1.2.2.1.trans n1) (f.1.2.2.2.1.trans n2) (fun h'' f' B => k h'' (f.trans f') B.app)
  have sg : ∀ {Q' : Option Value → AH → Prop}, Q' (some (.int (sgF t n p))) h → Calls d nX12_sign [.ref m] h (hN h) (hU h) Q' := fun q => m_sign d5 m n p t H.1 p4 e22 q
  refine wX12_sum_4 (by omega) m ?_
  simp only [mdq_0 HM, e23, true_and]
  refine ⟨fun z => by first | exact absurd rfl z | exact absurd trivial z, fun _ => ?_⟩
  refine sg ?_
  simp only [rI_some, mdq_0 HM, true_and]
  refine ⟨fun c => sg ?_, fun c1 => sg ?_⟩
  · simp only [rI_some, mdq_0 HM, true_and]
    refine ⟨fun z => absurd c z, fun _ => ?_⟩
    simp only [mdq_0 HM, e22, nI_1, lH_eq, hS_sI, true_and]
    exact sm_go hd m n r p st pa 2 43 t R pile cl su s hst hpi hsk H hrn e30 c (by decide) (by decide) (by decide) (by decide) (by decide) (by decide) (by decide) (by decide) kF kO
  · simp only [rI_some, mdq_0 HM, true_and, rt_v]
    refine ⟨fun c2 => ⟨n1, n2, k h (FRm.refl h m r) (Or.inr ⟨p, pa, [], by rw [List.append_nil]; exact H, hsk, by rw [List.append_nil]; exact hrn, tk_n5 hB t6 c1 c2⟩)⟩, fun c => sg ?_⟩
    simp only [rI_some, mdq_0 HM, true_and]
    refine ⟨fun _ => ?_, fun z => absurd z c1⟩
    simp only [mdq_0 HM, e22, nI_1, lH_eq, hS_sI, true_and]
    exact sm_go hd m n r p st pa 3 45 t R pile cl su s hst hpi hsk H hrn e30 c (by decide) (by decide) (by decide) (by decide) (by decide) (by decide) (by decide) (by decide) kF kO
theorem m_sum {d : Nat} {h : AH} {Q : Option Value → AH → Prop} (hd : 10 ≤ d) (m n r p st beh pa : Nat) (t : Nat → Int32) (R : Int32 × List (List (Nat × Nat) × List (Nat × Nat))) (pile : List Nat) (cl : List (List (Nat × Nat) × List (Nat × Nat))) (su s : List (Nat × Nat)) (hb : (st = 1 ∧ beh = 2) ∨ (st = 3 ∧ beh = 4) ∨ (st = 5 ∧ beh = 6) ∨ (st = 7 ∧ beh = 4)) (hpi : hdT pile < 5) (ems : mstep t n (p, st, pile, pa, cl, su, s) = mval t n (sk t n p) beh pile pa cl su s) (H : MM h m n r t (p, st, pile, pa, cl, su, s)) (hrn : rnM t n (p, st, pile, pa, cl, su, s) = R) (e30 : hI h m 30 = 12) (k : ∀ h', FRm h h' m r → BP h' m n r t R beh pile cl su s 5 → Q none h') : Calls d nX12_sum [.ref m] h (hN h) (hU h) Q := by
  obtain ⟨e, rfl⟩ : ∃ e, d = e + 1 := ⟨d - 1, by omega⟩
  have hbeh : ∃ b, beh = b + 1 ∧ (b = 1 ∨ b = 3 ∨ b = 5) := by
    rcases hb with ⟨-, e⟩ | ⟨-, e⟩ | ⟨-, e⟩ | ⟨-, e⟩
    · exact ⟨1, e, Or.inl rfl⟩
    · exact ⟨3, e, Or.inr (Or.inl rfl)⟩
    · exact ⟨5, e, Or.inr (Or.inr rfl)⟩
    · exact ⟨3, e, Or.inr (Or.inl rfl)⟩
  refine wX12_sum (by omega) m ?_
  simp only [mdq_0 H.1.1, true_and]
  refine m_term (by omega) m n r p st beh pa t R pile cl su s hb (by omega) ems H hrn e30 (fun h1 f1 V => ?_)
  rw [rV_none]
  rcases V with V | ⟨p', pa', x, V, hsk', rn3, t6⟩
  · exact smF (by omega) m n t R.1 V f1.1.2.2.1 f1.1.2.2.2.1 (k h1 f1 (Or.inl V))
  · obtain ⟨b, eb, hb3⟩ := hbeh
    subst eb
    exact sm_loop (by omega) m n r b t R pile cl su hb3 hpi _ p' pa' (s ++ x) h1 (Nat.le_refl _) hsk' t6 V rn3 (f1.m30.trans e30) f1.1.2.2.1 f1.1.2.2.2.1 (fun h3 f3 B => k h3 (f1.trans f3) B.app)

/-! terms and sums of the reference -/
def BP (h : AH) (m n r : Nat) (t : Nat → Int32) (R : Int32 × List (List (Nat × Nat) × List (Nat × Nat))) (st : Nat) (pile : List Nat) (cl : List (List (Nat × Nat) × List (Nat × Nat))) (su s : List (Nat × Nat)) (lim : Nat) : Prop := MFd h m n t R.1 ∨ ∃ p pa x, MM h m n r t (p, st, pile, pa, cl, su, s ++ x) ∧ sk t n p = p ∧ rnM t n (p, st, pile, pa, cl, su, s ++ x) = R ∧ tgO (tkO t n p) < lim
theorem FRm.m30 {h h' : AH} {m r : Nat} (f : FRm h h' m r) : hI h' m 30 = hI h m 30 := f.2.1 30 (by decide) (by decide) (by decide) (by decide) (by decide) (by decide)
theorem m_blanksF {d : Nat} {h : AH} {Q : Option Value → AH → Prop} (hd : 6 ≤ d) (m n r : Nat) (t : Nat → Int32) (fa : Int32) (H : MFd h m n t fa) (k : ∀ h', FRm h h' m r → MFd h' m n t fa → Q none h') : Calls d nX12_blanks [.ref m] h (hN h) (hU h) Q := by
  obtain ⟨H, ⟨p, hp, e22⟩, e23, hf⟩ := H
  refine m_blanks hd m n p t H hp e22 (fun h1 f1 g1 g2 => ?_)
  exact k h1 (FRm.m f1 (fun j a _ _ _ _ _ => g1 j a)) ⟨H.fr f1 (g1 21 (by decide)) (by omega), ⟨_, ru_le hp, g2⟩, (g1 23 (by decide)).trans e23, hf⟩
theorem tmF {d E1 E2 : Nat} {Q : Option Value → AH → Prop} {h : AH} (hd : 4 ≤ d) (m n : Nat) (t : Nat → Int32) (fa : Int32) (H : MFd h m n t fa) (n1 : hN h = E1) (n2 : hU h = E2) (k : Q none h) : Reach d nX12_term (8, [.ref m, .float 0], []) h E1 E2 Q := by
  refine wX12_term_8 hd m ?_
  simp only [mdq_0 H.1.1, H.2.2.1, true_and, rt_v]
  exact ⟨fun _ => ⟨n1, n2, k⟩, fun z => absurd z H.2.2.2⟩
theorem m_termF {d : Nat} {h : AH} {Q : Option Value → AH → Prop} (hd : 9 ≤ d) (m n r : Nat) (t : Nat → Int32) (fa : Int32) (H : MFd h m n t fa) (e30 : hI h m 30 = 12) (k : ∀ h', FRm h h' m r → MFd h' m n t fa → Q none h') : Calls d nX12_term [.ref m] h (hN h) (hU h) Q := by
  obtain ⟨e, rfl⟩ : ∃ e, d = e + 1 := ⟨d - 1, by omega⟩
  refine wX12_term (by omega) m ?_
  simp only [mdq_0 H.1.1, true_and]
  refine m_valueF (by omega) m n r t fa H e30 (fun h1 f1 H1 => ?_)
  simp only [rV_none, mdq_0 H1.1.1, true_and]
  refine m_blanksF (by omega) m n r t fa H1 (fun h2 f2 H2 => ?_)
  rw [rV_none]
  have F := f1.trans f2
  exact tmF (by omega) m n t fa H2 F.1.2.2.1 F.1.2.2.2.1 (k h2 F H2)
theorem tm_go {d E1 E2 : Nat} {Q : Option Value → AH → Prop} {h : AH} (hd : 8 ≤ d) (m n r p st pa op : Nat) (c : Int32) (t : Nat → Int32) (R : Int32 × List (List (Nat × Nat) × List (Nat × Nat))) (pile : List Nat) (cl : List (List (Nat × Nat) × List (Nat × Nat))) (su s : List (Nat × Nat)) (hst : st = 1 ∨ st = 3 ∨ st = 5) (hpi : hdT pile < 6) (hsk : sk t n p = p) (H : MM h m n r t (p, st + 1, pile, pa, cl, su, s)) (hrn : rnM t n (p, st + 1, pile, pa, cl, su, s) = R) (e30 : hI h m 30 = 12) (hc : sgF t n p = c) (h0 : 0 ≤ c) (h1 : c < 128) (hg : ¬ isDg c = true) (hl : ¬ isLt c = true) (n60 : c ≠ 60) (n62 : c ≠ 62) (hop : sgO c = op) (h6 : tgO op = 6) (kF : ∀ h', FRm h h' m r → MFd h' m n t R.1 → Reach d nX12_term (8, [.ref m, .float 0], []) h' E1 E2 Q) (kO : ∀ h' p' pa' x, FRm h h' m r → p < p' → sk t n p' = p' → MM h' m n r t (p', st + 1, pile, pa', cl, su, s ++ x) → rnM t n (p', st + 1, pile, pa', cl, su, s ++ x) = R → Reach d nX12_term (8, [.ref m, .float 0], []) h' E1 E2 Q) : Calls d nX12_value [.ref m] (sI h m 22 (nI (p + 1))) (hN h) (hU h) (fun r12 h11 => rV r12 ((hS h11 m).1 = 10 + 12 ∧ Calls d nX12_entry [.ref m, .int (nI op), .int (nI 0)] h11 (hN h11) (hU h11) (fun r14 h13 => rV r14 ((hS h13 m).1 = 10 + 12 ∧ Calls d nX12_blanks [.ref m] h13 (hN h13) (hU h13) (fun r16 h15 => rV r16 (Reach d nX12_term (8, [.ref m, .float 0], []) h15 E1 E2 Q)))))) := by
  have hB := H.1.2.2.2.2
  have hn4 := H.1.2.2.1
  have hp := H.2.1.2
  obtain ⟨s1, s2⟩ := sgn_eq (t := t) (n := n) (q := p) hB h0 h1 hg hl n60 n62
  obtain ⟨eE, hpn⟩ := s2 hc
  have eO : tkO t n p = op := (tkO_3 (s1.mp hc)).trans hop
  have re := rst_hd (th := 5) (l := pile) (by omega)
  have em : mstep t n (p, st + 1, pile, pa, cl, su, s) = .inr (p + 1, st, op :: pile, pa, cl, su, s) := by
    unfold mstep
    simp only
    rw [if_neg (by omega), if_neg (by omega), if_neg (by omega), hsk]
    unfold mgo
    rw [eO, h6, if_pos ⟨by omega, by omega⟩, show (6 - 1 : Nat) = 5 from rfl, re.1, re.2, List.append_nil, eE, Nat.add_sub_cancel]
  have I2 := mstep_inv H.2.2.2.2.2.2 hp em
  have rn2 : rnM t n (p + 1, st, op :: pile, pa, cl, su, s) = R := (rnM_in (show (p, st + 1, pile, pa, cl, su, s).1 ≤ n from hp) em).symm.trans hrn
  have f0 : Fr' h (sI h m 22 (nI (p + 1))) (fun c => c = m) := Fr'.sI rfl
  have g0 : ∀ j, j ≠ 22 → hI (sI h m 22 (nI (p + 1))) m j = hI h m j := fun j hj => by rw [hI_sI, if_pos rfl, if_neg hj]
  have e22 : hI (sI h m 22 (nI (p + 1))) m 22 = nI (p + 1) := by rw [hI_sI, if_pos rfl, if_pos rfl]
  obtain ⟨H1, -, e23, ⟨e24, hr⟩, E, e28, -⟩ := H
  have MM2 : MM (sI h m 22 (nI (p + 1))) m n r t (p + 1, st, op :: pile, pa, cl, su, s) := ⟨H1.fr f0 (g0 21 (by decide)) (by omega), ⟨e22, by omega⟩, (g0 23 (by decide)).trans e23, ⟨(g0 24 (by decide)).trans e24, hr⟩, E.cg (g0 26 (by decide)) (f0.2.2.2.2.1 (m + 22) (by omega)) (f0.2.2.2.2.1 (m + 23) (by omega)), (g0 28 (by decide)).trans e28, I2⟩
  have FR0 : FRm h (sI h m 22 (nI (p + 1))) m r := FRm.m f0 (fun j a _ _ _ _ _ => g0 j a)
  have ems : mstep t n (p + 1, st, op :: pile, pa, cl, su, s) = mval t n (sk t n (p + 1)) (st + 1) (op :: pile) pa cl su s := by
    unfold mstep
    simp only
    rw [if_neg (by omega), if_pos hst]
  refine m_value (h := sI h m 22 (nI (p + 1))) hd m n r (p + 1) st (st + 1) pa (op :: pile) cl su s t MM2 (by omega) ((g0 30 (by decide)).trans e30) (fun h2 f2 V => ?_)
  have FR2 := FR0.trans f2
  rw [rV_none]
  have p1n : (p + 1, st, op :: pile, pa, cl, su, s).1 ≤ n := by show p + 1 ≤ n; omega
  cases ev : mval t n (sk t n (p + 1)) (st + 1) (op :: pile) pa cl su s with
  | inl z =>
    obtain ⟨f, x⟩ := z
    rw [ev] at V ems
    have eR : R = (f, x) := by rw [← rn2]; exact rnM_out p1n ems
    have V : MFd h2 m n t R.1 := by rw [eR]; exact V
    refine ⟨by rw [mdq_0 V.1.1], ?_⟩
    refine m_entryF (by omega) m _ _ V.1.1 (by rw [V.2.2.1]; exact V.2.2.2) ?_
    rw [rV_none]
    refine ⟨by rw [mdq_0 V.1.1], ?_⟩
    refine m_blanksF (by omega) m n r t R.1 V (fun h3 f3 V3 => ?_)
    rw [rV_none]
    exact kF h3 (FR2.trans f3) V3
  | inr σ3 =>
    obtain ⟨v, e3⟩ := mval_sh ev
    subst e3
    rw [ev] at V ems
    have rn3 := (rnM_in p1n ems).symm.trans rn2
    obtain ⟨V1, ⟨v22, vp⟩, v23, ⟨v24, -⟩, VE, v28, VI⟩ := V
    have vp : tkE t n (sk t n (p + 1)) ≤ n := vp
    have hgt : p < tkE t n (sk t n (p + 1)) := by
      have a : p + 1 ≤ sk t n (p + 1) := ru_ge
      have b := (tkE_le (t := t) (show sk t n (p + 1) ≤ n from ru_le (by omega))).1
      omega
    have hs2 : st + 1 = 2 ∨ st + 1 = 4 ∨ st + 1 = 6 := by omega
    have el := ent_lt rfl VI (by omega)
    refine ⟨by rw [mdq_0 V1.1], ?_⟩
    refine m_entry (by omega) m n r op 0 t _ V1 v23 v24 hr VE (by omega) (fun h3 f3 g3 E3 => ?_)
    have FR3 := FR2.trans f3
    have I4 := inv_fl VI hs2 (show 5 ≤ tgO op by omega)
    have tb := tg_bnd (tkO t n (sk t n (tkE t n (sk t n (p + 1)))))
    have rn4 := (rn_fl (pa := pa + 1) (pile := pile) (cl := cl) (su := su) (s := s ++ [v]) vp hs2 (show 5 ≤ tgO op by omega) (show tgO (tkO t n (sk t n (tkE t n (sk t n (p + 1))))) - 1 < tgO op by omega)).symm.trans rn3
    have MM4 : MM h3 m n r t (tkE t n (sk t n (p + 1)), st + 1, pile, pa + 1, cl, su, s ++ [v] ++ [(op, 0)]) := ⟨V1.frm f3, ⟨(g3 22 (by decide)).trans v22, vp⟩, (g3 23 (by decide)).trans v23, ⟨(g3 24 (by decide)).trans v24, hr⟩, by rw [← List.append_assoc]; exact E3, (g3 28 (by decide)).trans v28, I4⟩
    rw [rV_none]
    refine ⟨by rw [mdq_0 (V1.frm f3).1], ?_⟩
    refine m_blanks (by omega) m n (tkE t n (sk t n (p + 1))) t (V1.frm f3) vp ((g3 22 (by decide)).trans v22) (fun h4 f4 g4 q4 => ?_)
    rw [rV_none]
    have skp : sk t n (sk t n (tkE t n (sk t n (p + 1)))) = sk t n (tkE t n (sk t n (p + 1))) := ru_ru vp
    have ge : tkE t n (sk t n (p + 1)) ≤ sk t n (tkE t n (sk t n (p + 1))) := ru_ge
    have le : sk t n (tkE t n (sk t n (p + 1))) ≤ n := ru_le vp
    have MM5 := MM4.sk f4 g4 q4 ge le
    rw [List.append_assoc] at MM5 rn4
    exact kO h4 (sk t n (tkE t n (sk t n (p + 1)))) (pa + 1) _ (FR3.trans (FRm.m f4 (fun j a _ _ _ _ _ => g4 j a))) (by omega) skp MM5 ((rn_sk vp).trans rn4)

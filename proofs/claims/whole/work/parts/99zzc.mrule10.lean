theorem cm90 {d E1 E2 : Nat} {Q : Option Value → AH → Prop} {h : AH} (hd : 10 ≤ d) (m n r p e pa op : Nat) (v1 : Int32) (t : Nat → Int32) (R : Int32 × List (List (Nat × Nat) × List (Nat × Nat))) (pile : List Nat) (cl : List (List (Nat × Nat) × List (Nat × Nat))) (su s : List (Nat × Nat)) (h4 : tgO op = 4) (HM : ModAt h m) (M0 : MM (sI h m 22 (nI (p + e))) m n r t (p + e, 5, op :: pile, pa, cl, su, s)) (hrn : rnM t n (p + e, 5, op :: pile, pa, cl, su, s) = R) (e30 : hI h m 30 = 12) (hop : (v1 = 61 ∧ op = 6) ∨ (v1 = 60 ∧ e = 0 ∧ op = 4) ∨ (v1 = 60 ∧ e = 1 ∧ op = 5) ∨ (v1 = 62 ∧ e = 0 ∧ op = 8) ∨ (v1 = 62 ∧ e = 1 ∧ op = 7)) (n1 : hN h = E1) (n2 : hU h = E2) (k : ∀ h', FRm h h' m r → BP h' m n r t R 8 pile cl su s 5 → Q none h') : Reach d nX12_compared (90, [.ref m, .int v1, .int (nI e)], [.int (nI e), .int (nI p), .ref m]) h E1 E2 Q := by
  refine wX12_compared_90 (by omega) m v1 (nI e) (nI e) (nI p) m ?_
  have f0 : Fr' h (sI h m 22 (nI (p + e))) (fun c => c = m) := Fr'.sI rfl
  have g0 : ∀ j, j ≠ 22 → hI (sI h m 22 (nI (p + e))) m j = hI h m j := fun j hj => by rw [hI_sI, if_pos rfl, if_neg hj]
  have FR0 : FRm h (sI h m 22 (nI (p + e))) m r := FRm.m f0 (fun j a _ _ _ _ _ => g0 j a)
  simp only [mdq_0 HM, nI_add, lH_eq, hS_sI, true_and]
  refine m_sum (h := sI h m 22 (nI (p + e))) hd m n r (p + e) 5 6 pa t R (op :: pile) cl su s (Or.inr (Or.inr (Or.inl ⟨rfl, rfl⟩))) (by show tgO op < 5; omega) rfl M0 hrn ((g0 30 (by decide)).trans e30) (fun h2 f2 B => ?_)
  have F := FR0.trans f2
  rw [rV_none]
  have go : (hS h2 m).1 = 10 + 12 ∧ Calls d nX12_entry [.ref m, .int (nI op), .int (nI 0)] h2 (hN h2) (hU h2) (fun r5 h4 => rV r5 (RtOf none E1 E2 Q none h4)) := by
    rcases B with V | ⟨p', pa', x, V, hsk', rn3, t5⟩
    · refine ⟨by rw [mdq_0 V.1.1], m_entryF (by omega) m _ _ V.1.1 (by rw [V.2.2.1]; exact V.2.2.2) ?_⟩
      rw [rV_none, rt_v]
      exact ⟨F.1.2.2.1.trans n1, F.1.2.2.2.1.trans n2, k h2 F (Or.inl V)⟩
    · have VI := V.2.2.2.2.2.2
      obtain ⟨V1, ⟨v22, vp⟩, v23, ⟨v24, hr⟩, VE, v28, -⟩ := V
      have hn4 := V1.2.2.1
      have el := ent_lt rfl VI (by omega)
      refine ⟨by rw [mdq_0 V1.1], ?_⟩
      refine m_entry (by omega) m n r op 0 t _ V1 v23 v24 hr VE (by omega) (fun h3 f3 g3 E3 => ?_)
      have FR3 := F.trans f3
      have I4 := inv_fl8 VI h4
      have rn4 := (rn_fl8 (pa := pa') (pile := pile) (cl := cl) (su := su) (s := s ++ x) vp h4 (by rw [hsk']; exact t5)).symm.trans rn3
      have MM4 : MM h3 m n r t (p', 8, pile, pa', cl, su, s ++ x ++ [(op, 0)]) := ⟨V1.frm f3, ⟨(g3 22 (by decide)).trans v22, vp⟩, (g3 23 (by decide)).trans v23, ⟨(g3 24 (by decide)).trans v24, hr⟩, by rw [← List.append_assoc]; exact E3, (g3 28 (by decide)).trans v28, I4⟩
      rw [rV_none, rt_v]
      rw [List.append_assoc] at MM4 rn4
      exact ⟨FR3.1.2.2.1.trans n1, FR3.1.2.2.2.1.trans n2, k h3 FR3 (Or.inr ⟨p', pa', _, MM4, hsk', rn4, t5⟩)⟩
  have n61 : ¬ (60 : Int32) = 61 := by decide
  have n62 : ¬ (62 : Int32) = 61 := by decide
  have n63 : ¬ (62 : Int32) = 60 := by decide
  have z0 : (nI 0 = (0 : Int32)) := rfl
  have z1 : ¬ (nI 1 = (0 : Int32)) := by decide
  rcases hop with ⟨a, b⟩ | ⟨a, c, b⟩ | ⟨a, c, b⟩ | ⟨a, c, b⟩ | ⟨a, c, b⟩
  · subst a b
    exact ⟨fun z => absurd rfl z, fun _ => go⟩
  · subst a b c
    exact ⟨fun _ => ⟨fun z => absurd rfl z, fun _ => ⟨fun _ => go, fun z => absurd z0 z⟩⟩, fun z => absurd z n61⟩
  · subst a b c
    exact ⟨fun _ => ⟨fun z => absurd rfl z, fun _ => ⟨fun z => absurd z z1, fun _ => go⟩⟩, fun z => absurd z n61⟩
  · subst a b c
    exact ⟨fun _ => ⟨fun _ => ⟨fun _ => go, fun z => absurd z0 z⟩, fun z => absurd z n63⟩, fun z => absurd z n62⟩
  · subst a b c
    exact ⟨fun _ => ⟨fun _ => ⟨fun z => absurd z z1, fun _ => go⟩, fun z => absurd z n63⟩, fun z => absurd z n62⟩
/-- what the sign at hand says -/
def cpO (t : Nat → Int32) (n p : Nat) (v1 : Int32) (e op : Nat) : Prop := p < n ∧ tkE t n p = p + 1 + e ∧ p + 1 + e ≤ n ∧ tkO t n p = op ∧ tgO op = 4 ∧ ((v1 = 61 ∧ op = 6) ∨ (v1 = 60 ∧ e = 0 ∧ op = 4) ∨ (v1 = 60 ∧ e = 1 ∧ op = 5) ∨ (v1 = 62 ∧ e = 0 ∧ op = 8) ∨ (v1 = 62 ∧ e = 1 ∧ op = 7)) ∧ ((v1 = 61 ∧ e = 0) ∨ (¬ v1 = 61 ∧ ((sgF t n (p + 1) = 61 ∧ e = 1) ∨ (¬ sgF t n (p + 1) = 61 ∧ e = 0))))
theorem cpO_ok {t : Nat → Int32} {n p : Nat} {v1 : Int32} (hb : ∀ i, i < n → byB (t i)) (hc : v1 = 60 ∨ v1 = 61 ∨ v1 = 62) (h : sgF t n p = v1) : ∃ e op, cpO t n p v1 e op := by
  by_cases c61 : v1 = 61
  · subst c61
    obtain ⟨a, b, c⟩ := cmp_1 hb h
    exact ⟨0, 6, c, b, by omega, a, by decide, Or.inl ⟨rfl, rfl⟩, Or.inl ⟨rfl, rfl⟩⟩
  · have hc2 : v1 = 60 ∨ v1 = 62 := by
      rcases hc with h | h | h
      · exact Or.inl h
      · exact absurd h c61
      · exact Or.inr h
    obtain ⟨lt, k1, k2⟩ := cmp_2 hb hc2 h
    by_cases z : sgF t n (p + 1) = 61
    · obtain ⟨a, b, c, d⟩ := k1 z
      rcases hc2 with u | u
      · subst u
        exact ⟨1, 5, lt, c, by omega, (tkO_3 ⟨a, b⟩).trans (by decide), by decide, Or.inr (Or.inr (Or.inl ⟨rfl, rfl, rfl⟩)), Or.inr ⟨c61, Or.inl ⟨z, rfl⟩⟩⟩
      · subst u
        exact ⟨1, 7, lt, c, by omega, (tkO_3 ⟨a, b⟩).trans (by decide), by decide, Or.inr (Or.inr (Or.inr (Or.inr ⟨rfl, rfl, rfl⟩))), Or.inr ⟨c61, Or.inl ⟨z, rfl⟩⟩⟩
    · obtain ⟨a, b, c⟩ := k2 z
      rcases hc2 with u | u
      · subst u
        exact ⟨0, 4, lt, c, by omega, (tkO_3 ⟨a, b⟩).trans (by decide), by decide, Or.inr (Or.inl ⟨rfl, rfl, rfl⟩), Or.inr ⟨c61, Or.inr ⟨z, rfl⟩⟩⟩
      · subst u
        exact ⟨0, 8, lt, c, by omega, (tkO_3 ⟨a, b⟩).trans (by decide), by decide, Or.inr (Or.inr (Or.inr (Or.inl ⟨rfl, rfl, rfl⟩))), Or.inr ⟨c61, Or.inr ⟨z, rfl⟩⟩⟩
theorem cm37 {d E1 E2 : Nat} {Q : Option Value → AH → Prop} {h : AH} (hd : 10 ≤ d) (m n r p pa : Nat) (v1 : Int32) (t : Nat → Int32) (R : Int32 × List (List (Nat × Nat) × List (Nat × Nat))) (pile : List Nat) (cl : List (List (Nat × Nat) × List (Nat × Nat))) (su s : List (Nat × Nat)) (hpi : hdT pile ≤ 3) (hsk : sk t n p = p) (H : MM h m n r t (p, 4, pile, pa, cl, su, s)) (hrn : rnM t n (p, 4, pile, pa, cl, su, s) = R) (e30 : hI h m 30 = 12) (hc : v1 = 60 ∨ v1 = 61 ∨ v1 = 62) (hv : sgF t n p = v1) (n1 : hN h = E1) (n2 : hU h = E2) (k : ∀ h', FRm h h' m r → BP h' m n r t R 8 pile cl su s 5 → Q none h') : Reach d nX12_compared (37, [.ref m, .int v1, .float 0], []) h E1 E2 Q := by
  have hB := H.1.2.2.2.2
  have hn4 := H.1.2.2.1
  have hp := H.2.1.2
  obtain ⟨e, op, lt, eE, lE, eO, h4, hop, he⟩ := cpO_ok hB hc hv
  have re := rst_hd (th := 3) (l := pile) hpi
  have em : mstep t n (p, 4, pile, pa, cl, su, s) = if 60 ≤ pa then .inl (rfF 0 p 3, []) else .inr (p + 1 + e, 5, op :: pile, pa + 1, cl, su, s) := by
    have e1 : mstep t n (p, 4, pile, pa, cl, su, s) = mgo t n (sk t n p) 4 pile pa cl su s := rfl
    rw [e1, hsk]
    unfold mgo
    rw [eO, if_neg (fun z => by omega), if_pos ⟨h4, rfl⟩, re.1, re.2, List.append_nil, eE]
  have HM := H.1.1
  have e22 : hI h m 22 = nI p := H.2.1.1
  have e23 : hI h m 23 = 0 := H.2.2.1
  have e28 : hI h m 28 = nI pa := H.2.2.2.2.2.1
  have I := H.2.2.2.2.2.2
  have pa60 : pa ≤ 60 := I.2.1.2.1
  have p60 : (nI pa = (60 : Int32)) = (pa = 60) := nI_eq_iff (b := 60) (by omega) (by decide)
  have hpn : (p, 4, pile, pa, cl, su, s).1 ≤ n := hp
  refine wX12_compared_37 (by omega) m v1 ?_
  simp only [mdq_0 HM, e22, true_and]
  refine m_isCounted (by omega) m p HM (fun h1 f1 g1 g28 g23 => ?_)
  have HM1 := HM.fr f1
  simp only [rV_none, mdq_0 HM1, g1 22 (by decide) (by decide), e22, nI_1, lH_eq, hS_sI, true_and]
  have f2 : Fr' h (sI h1 m 22 (nI (p + 1))) (fun c => c = m) := f1.trans (Fr'.sI rfl)
  have g2 : ∀ j, j ≠ 22 → hI (sI h1 m 22 (nI (p + 1))) m j = hI h1 m j := fun j hj => by rw [hI_sI, if_pos rfl, if_neg hj]
  have e222 : hI (sI h1 m 22 (nI (p + 1))) m 22 = nI (p + 1) := by rw [hI_sI, if_pos rfl, if_pos rfl]
  have FR2 : FRm h (sI h1 m 22 (nI (p + 1))) m r := FRm.m f2 (fun j a b _ _ c _ => (g2 j a).trans (g1 j b c))
  have T2 : MTp (sI h1 m 22 (nI (p + 1))) m n t := H.1.fr f2 ((g2 21 (by decide)).trans (g1 21 (by decide) (by decide))) (by omega)
  have e232 : hI (sI h1 m 22 (nI (p + 1))) m 23 = if pa = 60 then rfF 0 p 3 else 0 := by
    rw [g2 23 (by decide), g23, e28, e23]
    simp only [p60]
  have e282 : hI (sI h1 m 22 (nI (p + 1))) m 28 = nI (pa + 1) := by rw [g2 28 (by decide), g28, e28, nI_1]
  have gg : ∀ j, j ≠ 22 → j ≠ 23 → j ≠ 28 → hI (sI h1 m 22 (nI (p + 1))) m j = hI h m j := fun j a b c => (g2 j a).trans (g1 j b c)
  generalize sI h1 m 22 (nI (p + 1)) = h2 at *
  have e302 := FR2.m30.trans e30
  have n12 := FR2.1.2.2.1.trans n1
  have n22 := FR2.1.2.2.2.1.trans n2
  have fin : Reach d nX12_compared (90, [.ref m, .int v1, .int (nI e)], [.int (nI e), .int (nI (p + 1)), .ref m]) h2 E1 E2 Q := by
    by_cases c60 : pa = 60
    · rw [if_pos c60] at e232
      rw [if_pos (by omega)] at em
      have eR : R = (rfF 0 p 3, []) := by rw [← hrn]; exact rnM_out hpn em
      have ne : rfF 0 p 3 ≠ 0 := rfF_ne (fa := 0) (q := p) (c := 3) (by omega) (by omega)
      have MF : MFd h2 m n t R.1 := ⟨T2, ⟨p + 1, by omega, e222⟩, by rw [eR]; exact e232, by rw [eR]; exact ne⟩
      exact cm90F hd m n r (p + 1) v1 (nI e) (nI e) e t R.1 MF e302 rfl (by omega) n12 n22 (fun h' f' H' => k h' (FR2.trans f') (Or.inl H'))
    · rw [if_neg c60] at e232
      rw [if_neg (by omega)] at em
      have I5 := mstep_inv I hpn em
      have rn5 := (rnM_in hpn em).symm.trans hrn
      have f0 : Fr' h2 (sI h2 m 22 (nI (p + 1 + e))) (fun c => c = m) := Fr'.sI rfl
      have g0 : ∀ j, j ≠ 22 → hI (sI h2 m 22 (nI (p + 1 + e))) m j = hI h2 m j := fun j hj => by rw [hI_sI, if_pos rfl, if_neg hj]
      have M5 : MM (sI h2 m 22 (nI (p + 1 + e))) m n r t (p + 1 + e, 5, op :: pile, pa + 1, cl, su, s) := ⟨T2.fr f0 (g0 21 (by decide)) (by omega), ⟨by rw [hI_sI, if_pos rfl, if_pos rfl], lE⟩, (g0 23 (by decide)).trans e232, ⟨(g0 24 (by decide)).trans ((gg 24 (by decide) (by decide) (by decide)).trans H.2.2.2.1.1), H.2.2.2.1.2⟩, H.2.2.2.2.1.cg ((g0 26 (by decide)).trans (gg 26 (by decide) (by decide) (by decide))) (fun j => (f0.2.2.2.2.1 (m + 22) (by omega) j).trans (f2.2.2.2.2.1 (m + 22) (by omega) j)) (fun j => (f0.2.2.2.2.1 (m + 23) (by omega) j).trans (f2.2.2.2.2.1 (m + 23) (by omega) j)), (g0 28 (by decide)).trans e282, I5⟩
      exact cm90 hd m n r (p + 1) e (pa + 1) op v1 t R pile cl su s h4 T2.1 M5 rn5 e302 hop n12 n22 (fun h' f' B => k h' (FR2.trans f') B)
  have fin0 : e = 0 → Reach d nX12_compared (74, [.ref m, .int v1, .float 0], []) h2 E1 E2 Q := fun e0 => by
    subst e0
    refine wX12_compared_74 (by omega) m v1 (wX12_compared_75 (by omega) m v1 0 ?_)
    simp only [mdq_0 T2.1, e222, true_and]
    exact ⟨fun _ => fin, fun z => by first | exact absurd rfl z | exact absurd trivial z⟩
  have fin1 : e = 1 → Reach d nX12_compared (75, [.ref m, .int v1, .float 0], [.int 1]) h2 E1 E2 Q := fun e1 => by
    subst e1
    refine wX12_compared_75 (by omega) m v1 1 ?_
    simp only [mdq_0 T2.1, e222, true_and]
    exact ⟨fun z => absurd z (by decide), fun _ => fin⟩
  rcases he with ⟨c1, e0⟩ | ⟨c1, he⟩
  · exact ⟨fun _ => fin0 e0, fun z => absurd c1 z⟩
  · refine ⟨fun z => absurd z c1, fun _ => m_sign (h := h2) (by omega) m n (p + 1) t T2 (by omega) e222 ?_⟩
    rw [rI_some]
    rcases he with ⟨c2, e1⟩ | ⟨c2, e0⟩
    · exact ⟨fun z => absurd c2 z, fun _ => fin1 e1⟩
    · exact ⟨fun _ => fin0 e0, fun z => absurd z c2⟩

/-! what is open, answered -/
theorem inv_flB {p pa k : Nat} {pile : List Nat} {cl : List (List (Nat × Nat) × List (Nat × Nat))} {su s : List (Nat × Nat)} (I : mInv (p, 8, k :: pile, pa, cl, su, s)) (hk : k = 9 ∨ k = 10 ∨ k = 11) : mInv (p, 8, pile, pa, cl, su, s ++ [(k, 0)]) := by
  obtain ⟨hB, hd, -⟩ := st7_pile I (Or.inr rfl)
  obtain ⟨-, ⟨i1, i2, i3, i4⟩, i5, ⟨N, i6, i7⟩, ⟨j1, j2, j3, j4⟩, j5, j6, j7⟩ := I
  have y := j3 (by decide)
  have hd' : dpt pile ≤ 10 := by rw [dpt_c] at hd; omega
  have bq : brc (k :: pile) = brc pile := by rw [brc_c, if_neg (by omega), Nat.zero_add]
  have ln : (flK cl ++ su ++ (s ++ [(k, 0)])).length = (flK cl ++ su ++ s).length + 1 := by simp; omega
  simp only [List.length_cons] at i5 i7
  rw [bq, if_neg (by decide)] at i7
  refine ⟨⟨[], [], pile, rfl, Or.inl rfl, hB.2, hd', ⟨fun z => by omega, fun _ => rfl⟩, fun z => by omega, fun _ => rfl⟩, ⟨i1, i2, i3, i4⟩, by rw [ln]; omega, ⟨N, i6, by rw [ln, if_neg (by decide)]; omega⟩, ⟨fun z => by omega, fun z => by omega, fun _ => ?_, j4⟩, ?_, ?_, j7⟩
  · rw [tys_app y]
    rcases hk with rfl | rfl | rfl <;> rfl
  · rw [vals_app]
    have : vals [(k, 0)] = 0 := by
      have h2 : ¬ k ≤ 1 := by omega
      simp [vals, h2]
    omega
  · intro q hq
    rw [← List.append_assoc, List.mem_append] at hq
    rcases hq with hq | hq
    · exact j6 q hq
    · simp at hq
      subst hq
      rcases hk with rfl | rfl | rfl
      · exact Or.inr (Or.inr (Or.inl rfl))
      · exact Or.inr (Or.inr (Or.inr rfl))
      · exact Or.inr (Or.inr (Or.inr rfl))
theorem rn_flB {t : Nat → Int32} {n p pa k : Nat} {pile : List Nat} {cl : List (List (Nat × Nat) × List (Nat × Nat))} {su s : List (Nat × Nat)} (hp : p ≤ n) (hk : k = 9 ∨ k = 10 ∨ (k = 11 ∧ tkO t n (sk t n p) ≠ 10)) : rnM t n (p, 8, k :: pile, pa, cl, su, s) = rnM t n (p, 8, pile, pa, cl, su, s ++ [(k, 0)]) := by
  refine rnM_cg hp hp ?_
  have e1 : mstep t n (p, 8, k :: pile, pa, cl, su, s) = mgo t n (sk t n p) 8 (k :: pile) pa cl su s := rfl
  have e2 : mstep t n (p, 8, pile, pa, cl, su, s ++ [(k, 0)]) = mgo t n (sk t n p) 8 pile pa cl su (s ++ [(k, 0)]) := rfl
  rw [e1, e2]
  have t10 : tgO 10 = 2 := rfl
  have t11 : tgO 11 = 1 := rfl
  refine mgo_fl (by omega) (fun z => absurd rfl z) (fun z => by omega) (fun z => ?_) ?_
  · rcases hk with h | h | ⟨h, h'⟩
    · rw [h, show tgO 9 = 3 from rfl]
      rcases z with z | z <;> rw [z] <;> decide
    · rw [h]
      rcases z with z | z <;> rw [z] <;> decide
    · rw [h]
      rcases z with z | z
      · exact absurd z h'
      · rw [z]; decide
  · rcases hk with h | h | ⟨h, h'⟩ <;> rw [h] <;> decide
def drK (kk : Nat) : List Nat → List Nat
  | [] => []
  | j :: l => if j = kk then drK kk l else j :: l
theorem awr_loop {d E1 E2 : Nat} {Q : Option Value → AH → Prop} (hd : 5 ≤ d) (m n r p pa kk : Nat) (t : Nat → Int32) (R : Int32 × List (List (Nat × Nat) × List (Nat × Nat))) (cl : List (List (Nat × Nat) × List (Nat × Nat))) (su : List (Nat × Nat)) (hk : kk = 9 ∨ kk = 10 ∨ (kk = 11 ∧ tkO t n (sk t n p) ≠ 10)) : ∀ (pile : List Nat) (s : List (Nat × Nat)) (h : AH), MM h m n r t (p, 8, pile, pa, cl, su, s) → OP h m pile → rnM t n (p, 8, pile, pa, cl, su, s) = R → hN h = E1 → hU h = E2 → (∀ h' s', FRo h h' m r → MM h' m n r t (p, 8, drK kk pile, pa, cl, su, s') → OP h' m (drK kk pile) → rnM t n (p, 8, drK kk pile, pa, cl, su, s') = R → s.length ≤ s'.length → Q none h') → Reach d nX12_answers (0, [.ref m, .int (nI kk)], []) h E1 E2 Q
  | [], s, h, H, O, hrn, n1, n2, k => by
    refine wX12_answers_0 (by omega) m (nI kk) ?_
    simp only [mdq_0 H.1.1, true_and]
    refine m_top hd m [] H.1.1 O (by simp) ?_
    rw [rI_some]
    refine ⟨fun _ => ?_, fun z => ?_⟩
    · rw [rt_v]
      exact ⟨n1, n2, k h s (FRo.refl h m r) H O hrn (Nat.le_refl _)⟩
    · exfalso
      have z : (-1 : Int32) = nI kk := z
      rcases hk with h | h | ⟨h, -⟩ <;> rw [h] at z <;> exact absurd z (by decide)
  | j :: l, s, h, H, O, hrn, n1, n2, k => by
    have I := H.2.2.2.2.2.2
    obtain ⟨hB, hdp, -⟩ := st7_pile I (Or.inr rfl)
    have hlen := I.1.all.1
    have hl' : l.length < 35 := by simp at hlen; omega
    have hj := (I.1.all.2 j (by simp)).2
    have eq : (nI j = nI kk) = (j = kk) := nI_eq_iff (by omega) (by omega)
    refine wX12_answers_0 (by omega) m (nI kk) ?_
    simp only [mdq_0 H.1.1, true_and]
    refine m_top hd m (j :: l) H.1.1 O hlen ?_
    rw [rI_some]
    have tv : tpV (j :: l) = nI j := rfl
    simp only [tv, eq, mdq_0 H.1.1, H.2.2.1, true_and, rt_v]
    refine ⟨fun z => ?_, fun z => ⟨fun y => by first | exact absurd rfl y | exact absurd trivial y, fun _ => ?_⟩⟩
    · have e : drK kk (j :: l) = j :: l := by simp only [drK, if_neg z]
      rw [e] at k
      exact ⟨n1, n2, k h s (FRo.refl h m r) H O hrn (Nat.le_refl _)⟩
    · subst z
      have e : drK j (j :: l) = drK j l := by simp only [drK, if_true]
      rw [e] at k
      have hn4 := H.1.2.2.1
      have hp := H.2.1.2
      have el := ent_lt rfl I (by omega)
      obtain ⟨H1, ⟨v22, vp⟩, v23, ⟨v24, hr⟩, VE, v28, -⟩ := H
      refine m_entry (by omega) m n r j 0 t _ H1 v23 v24 hr VE (by omega) (fun h1 f1 g1 E1' => ?_)
      have HM1 := (H1.frm f1).1
      have e29 : hI h1 m 29 = nI (l.length + 1) := by rw [g1 29 (by decide), O.1]; simp
      have e27 : hI h1 m 27 = nI (dpt (j :: l)) := by rw [g1 27 (by decide), O.2.1]
      have s1 : nI (l.length + 1) - 1 = nI l.length := nI_sub1 _
      have j9 : (nI j = (9 : Int32)) = (j = 9) := nI_eq_iff (b := 9) (by omega) (by decide)
      have fin : ∀ v27 : Int32, v27 = nI (dpt l) → Reach d nX12_answers (0, [.ref m, .int (nI j)], []) (sI (sI h1 m 29 (nI l.length)) m 27 v27) E1 E2 Q := fun v27 ev => by
        have f2 : Fr' h1 (sI (sI h1 m 29 (nI l.length)) m 27 v27) (fun c => c = m) := (Fr'.sI (S := fun c => c = m) rfl).trans (Fr'.sI rfl)
        have g2 : ∀ i, i ≠ 27 → i ≠ 29 → hI (sI (sI h1 m 29 (nI l.length)) m 27 v27) m i = hI h1 m i := fun i a b => by rw [hI_sI, if_pos rfl, if_neg a, hI_sI, if_pos rfl, if_neg b]
        have e292 : hI (sI (sI h1 m 29 (nI l.length)) m 27 v27) m 29 = nI l.length := by rw [hI_sI, if_pos rfl, if_neg (by decide), hI_sI, if_pos rfl, if_pos rfl]
        have e272 : hI (sI (sI h1 m 29 (nI l.length)) m 27 v27) m 27 = nI (dpt l) := by rw [hI_sI, if_pos rfl, if_pos rfl]; exact ev
        have I' := inv_flB I (by omega)
        have rn' := (rn_flB (pa := pa) (pile := l) (cl := cl) (su := su) (s := s) vp hk).symm.trans hrn
        generalize sI (sI h1 m 29 (nI l.length)) m 27 v27 = h2 at *
        have F : FRo h h2 m r := f1.o.trans ⟨f2.mono (fun c z => Or.inl z), fun i _ _ _ a _ b => g2 i a b, fun i _ => ⟨f2.2.2.2.2.1 (m + 22) (by omega) i, f2.2.2.2.2.1 (m + 23) (by omega) i⟩⟩
        have M2 : MM h2 m n r t (p, 8, l, pa, cl, su, s ++ [(j, 0)]) := ⟨(H1.frm f1).fr f2 (g2 21 (by decide) (by decide)) (by omega), ⟨(g2 22 (by decide) (by decide)).trans ((g1 22 (by decide)).trans v22), vp⟩, (g2 23 (by decide) (by decide)).trans ((g1 23 (by decide)).trans v23), ⟨(g2 24 (by decide) (by decide)).trans ((g1 24 (by decide)).trans v24), hr⟩, by rw [← List.append_assoc]; exact E1'.cg (g2 26 (by decide) (by decide)) (f2.2.2.2.2.1 (m + 22) (by omega)) (f2.2.2.2.2.1 (m + 23) (by omega)), (g2 28 (by decide) (by decide)).trans ((g1 28 (by decide)).trans v28), I'⟩
        have O2 : OP h2 m l := ⟨e292, e272, (O.2.2.2).cg (fun i _ => (f2.2.2.2.2.1 (m + 28) (by omega) i).trans (f1.1.2.2.2.2.1 (m + 28) (fun z => by rcases z with z | z | z | z; all_goals first | omega | exact z) i))⟩
        refine awr_loop hd m n r p pa j t R cl su hk l (s ++ [(j, 0)]) h2 M2 O2 rn' (F.1.2.2.1.trans n1) (F.1.2.2.2.1.trans n2) (fun h' s' F' M' O' r' le => k h' s' (F.trans F') M' O' r' ?_)
        have : (s ++ [(j, 0)]).length = s.length + 1 := by simp
        omega
      have ne27 : ¬ (27 : Nat) = 29 := by decide
      simp only [rV_none, mdq_0 HM1, e29, s1, lH_eq, hS_sI, hI_sI, if_true, ne27, if_false, e27, j9, true_and]
      refine ⟨fun z => fin _ ?_, fun z => fin _ ?_⟩
      · rw [dpt_c, if_neg (by omega), Nat.zero_add, Int32.sub_zero]
      · rw [dpt_c, if_pos (Or.inl z), Nat.add_comm]
        exact nI_sub1 _
theorem m_answers {d : Nat} {h : AH} {Q : Option Value → AH → Prop} (hd : 6 ≤ d) (m n r p pa kk : Nat) (t : Nat → Int32) (R : Int32 × List (List (Nat × Nat) × List (Nat × Nat))) (cl : List (List (Nat × Nat) × List (Nat × Nat))) (su : List (Nat × Nat)) (hk : kk = 9 ∨ kk = 10 ∨ (kk = 11 ∧ tkO t n (sk t n p) ≠ 10)) (pile : List Nat) (s : List (Nat × Nat)) (H : MM h m n r t (p, 8, pile, pa, cl, su, s)) (O : OP h m pile) (hrn : rnM t n (p, 8, pile, pa, cl, su, s) = R) (k : ∀ h' s', FRo h h' m r → MM h' m n r t (p, 8, drK kk pile, pa, cl, su, s') → OP h' m (drK kk pile) → rnM t n (p, 8, drK kk pile, pa, cl, su, s') = R → s.length ≤ s'.length → Q none h') : Calls d nX12_answers [.ref m, .int (nI kk)] h (hN h) (hU h) Q := by
  obtain ⟨e, rfl⟩ : ∃ e, d = e + 1 := ⟨d - 1, by omega⟩
  exact calls_intro (q := (yX12_answers, cX12_answers, 2, none, 12, 1, 1)) rfl (Nat.le_refl _) (Nat.le_refl _) (Nat.le_of_ble_eq_true rfl) (awr_loop (by omega) m n r p pa kk t R cl su hk pile s h H O hrn rfl rfl k)

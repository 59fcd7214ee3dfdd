/-! one fact of the reference -/
theorem ft_open {h h1 : AH} {m n r p q pa kk : Nat} {w : Nat} {t : Nat → Int32} {R : Int32 × List (List (Nat × Nat) × List (Nat × Nat))} {pile : List Nat} {cl : List (List (Nat × Nat) × List (Nat × Nat))} {su s : List (Nat × Nat)} (H : MM h m n r t (p, 7, pile, pa, cl, su, s)) (hrn : rnM t n (p, 7, pile, pa, cl, su, s) = R) (hq : sk t n p = q) (hkk : kk = 9 ∨ kk = 12) (em : mstep t n (p, 7, pile, pa, cl, su, s) = if 10 ≤ dpt pile then .inl (rfF 0 q 2, []) else .inr (q + w, 7, kk :: pile, pa, cl, su, s)) (hw : q + w ≤ n) (f : Fr' h h1 (fun c => c = m ∨ c = m + 28)) (g : ∀ j, j ≠ 22 → j ≠ 23 → j ≠ 27 → j ≠ 29 → hI h1 m j = hI h m j) (e23 : hI h1 m 23 = if dpt pile = 10 then rfF 0 q 2 else 0) (O : OP h1 m (kk :: pile)) (e22 : hI h1 m 22 = nI (q + w)) : FRo h h1 m r ∧ (MFd h1 m n t R.1 ∨ ∃ p', MM h1 m n r t (p', 7, kk :: pile, pa, cl, su, s) ∧ OP h1 m (kk :: pile) ∧ rnM t n (p', 7, kk :: pile, pa, cl, su, s) = R) := by
  have I := H.2.2.2.2.2.2
  have hdp := (st7_pile I (Or.inl rfl)).2.1
  obtain ⟨T, ⟨-, hp⟩, -, ⟨e24, hr⟩, E, e28, -⟩ := H
  have hn4 := T.2.2.1
  have hpn : (p, 7, pile, pa, cl, su, s).1 ≤ n := hp
  have T1 : MTp h1 m n t := T.fr f (g 21 (by decide) (by decide) (by decide) (by decide)) (by omega)
  refine ⟨⟨f.mono (fun c z => by omega), fun j a b _ c _ d => g j a b c d, fun j _ => ⟨f.2.2.2.2.1 (m + 22) (by omega) j, f.2.2.2.2.1 (m + 23) (by omega) j⟩⟩, ?_⟩
  by_cases c : dpt pile = 10
  · rw [if_pos c] at e23
    rw [if_pos (by omega)] at em
    have eR : R = (rfF 0 q 2, []) := by rw [← hrn]; exact rnM_out hpn em
    have ne : rfF 0 q 2 ≠ 0 := rfF_ne (fa := 0) (q := q) (c := 2) (by omega) (by omega)
    exact Or.inl ⟨T1, ⟨q + w, hw, e22⟩, by rw [eR]; exact e23, by rw [eR]; exact ne⟩
  · rw [if_neg c] at e23
    rw [if_neg (by omega)] at em
    have I' := mstep_inv I hpn em
    have rn' := (rnM_in hpn em).symm.trans hrn
    exact Or.inr ⟨q + w, ⟨T1, ⟨e22, hw⟩, e23, ⟨(g 24 (by decide) (by decide) (by decide) (by decide)).trans e24, hr⟩, E.cg (g 26 (by decide) (by decide) (by decide) (by decide)) (f.2.2.2.2.1 (m + 22) (by omega)) (f.2.2.2.2.1 (m + 23) (by omega)), (g 28 (by decide) (by decide) (by decide) (by decide)).trans e28, I'⟩, O, rn'⟩
theorem m_fact {d : Nat} {h : AH} {Q : Option Value → AH → Prop} (hd : 12 ≤ d) (m n r p pa : Nat) (t : Nat → Int32) (R : Int32 × List (List (Nat × Nat) × List (Nat × Nat))) (pile : List Nat) (cl : List (List (Nat × Nat) × List (Nat × Nat))) (su s : List (Nat × Nat)) (H : MM h m n r t (p, 7, pile, pa, cl, su, s)) (O : OP h m pile) (hrn : rnM t n (p, 7, pile, pa, cl, su, s) = R) (e30 : hI h m 30 = 12) (k1 : ∀ h', FRm h h' m r → BP h' m n r t R 8 pile cl su s 5 → Q (some (.int 1)) h') (k0 : ∀ h' kk, (kk = 9 ∨ kk = 12) → FRo h h' m r → (MFd h' m n t R.1 ∨ ∃ p', MM h' m n r t (p', 7, kk :: pile, pa, cl, su, s) ∧ OP h' m (kk :: pile) ∧ rnM t n (p', 7, kk :: pile, pa, cl, su, s) = R) → Q (some (.int 0)) h') : Calls d nX12_fact [.ref m] h (hN h) (hU h) Q := by
  obtain ⟨e, rfl⟩ : ∃ e, d = e + 1 := ⟨d - 1, by omega⟩
  have I := H.2.2.2.2.2.2
  have hdp := (st7_pile I (Or.inl rfl)).2.1
  have hlen := I.1.all.1
  have hB := H.1.2.2.2.2
  have hn4 := H.1.2.2.1
  have hp := H.2.1.2
  have hq : sk t n p ≤ n := ru_le hp
  refine wX12_fact (by omega) m ?_
  simp only [mdq_0 H.1.1, true_and]
  refine m_blanks (by omega) m n p t H.1 hp H.2.1.1 (fun h1 f1 g1 g2 => ?_)
  have FR1 : FRm h h1 m r := FRm.m f1 (fun j a _ _ _ _ _ => g1 j a)
  have M1 := H.sk f1 g1 g2 ru_ge hq
  have O1 := O.frm FR1
  have rn1 := (rn_sk (pile := pile) (st := 7) (pa := pa) (cl := cl) (su := su) (s := s) hp).trans hrn
  have skk : sk t n (sk t n p) = sk t n p := ru_ru hp
  have e301 := FR1.m30.trans e30
  generalize sk t n p = q at *
  have T1 := M1.1
  have e231 : hI h1 m 23 = 0 := M1.2.2.1
  simp only [rV_none, mdq_0 T1.1, true_and]
  refine m_stood (by omega) m n q 17 16 t rfl T1 (by decide) hq g2 ?_
  have iw := isWd_eq (t := t) (n := n) (q := q) (k := 17) (by decide) hq
  simp only [rI_some, bI0, mdq_0 T1.1, true_and, ← iw]
  have e7 : mstep t n (q, 7, pile, pa, cl, su, s) = if isWd t n q 17 ∨ (tkK t n q = 3 ∧ tkV t n q = 91) then (if 10 ≤ dpt pile then .inl (rfF 0 q 2, []) else .inr (tkE t n q, 7, (if tkK t n q = 3 then 12 else 9) :: pile, pa, cl, su, s)) else mval t n q 4 pile pa cl su s := by
    have : mstep t n (q, 7, pile, pa, cl, su, s) = if isWd t n (sk t n q) 17 ∨ (tkK t n (sk t n q) = 3 ∧ tkV t n (sk t n q) = 91) then (if 10 ≤ dpt pile then .inl (rfF 0 (sk t n q) 2, []) else .inr (tkE t n (sk t n q), 7, (if tkK t n (sk t n q) = 3 then 12 else 9) :: pile, pa, cl, su, s)) else mval t n (sk t n q) 4 pile pa cl su s := rfl
    rw [this, skk]
  obtain ⟨s1, s2⟩ := sgn_eq (t := t) (n := n) (q := q) (c := 91) hB (by decide) (by decide) (by decide) (by decide) (by decide) (by decide)
  refine ⟨fun z => ?_, fun z => ?_⟩
  · refine m_sign (by omega) m n q t T1 (by omega) g2 ?_
    simp only [rI_some, mdq_0 T1.1, true_and]
    refine ⟨fun y => ?_, fun y => ?_⟩
    · have n3 : ¬ (tkK t n q = 3 ∧ tkV t n q = 91) := fun c => y (s1.mpr c)
      rw [if_neg (fun c => c.elim z n3)] at e7
      refine m_compared (by omega) m n r q pa t R pile cl su s (by rw [skk]; exact e7) M1 rn1 e301 (fun h2 f2 B => ?_)
      have F := FR1.trans f2
      simp only [rV_none, rt_i, rt_b0, rt_b1, rt_v, rt_l, rt_o, rt_a, rV_none, rI_some, rL_some, rR_some, rT_some]
      exact ⟨F.1.2.2.1, F.1.2.2.2.1, k1 h2 F B⟩
    · obtain ⟨eE, lt⟩ := s2 y
      have k3 := s1.mp y
      rw [if_pos (Or.inr k3), eE, if_pos k3.1] at e7
      refine m_opens (by omega) m q 12 pile T1.1 O1 hlen hdp (by decide) g2 (fun h2 f2 g3 e23 O2 => ?_)
      have HM2 := T1.1.fr f2
      have g22 := (g3 22 (by decide) (by decide) (by decide)).trans g2
      simp only [rV_none, rt_i, rt_b0, rt_b1, rt_v, rt_l, rt_o, rt_a, rV_none, rI_some, rL_some, rR_some, rT_some, mdq_0 HM2, g22, lH_eq, nI_1, true_and]
      have f3 : Fr' h1 (sI h2 m 22 (nI (q + 1))) (fun c => c = m ∨ c = m + 28) := f2.trans (Fr'.sI (S := fun c => c = m ∨ c = m + 28) (Or.inl rfl))
      have g4 : ∀ j, j ≠ 22 → hI (sI h2 m 22 (nI (q + 1))) m j = hI h2 m j := fun j hj => by rw [hI_sI, if_pos rfl, if_neg hj]
      have e23' : hI (sI h2 m 22 (nI (q + 1))) m 23 = if dpt pile = 10 then rfF 0 q 2 else 0 := by
        rw [g4 23 (by decide), e23, e231]
        by_cases c : dpt pile = 10
        · rw [if_pos c, if_pos ⟨Or.inr rfl, c⟩]
        · rw [if_neg c, if_neg (fun z => c z.2)]
      have R1 := ft_open (kk := 12) (w := 1) M1 rn1 skk (Or.inr rfl) e7 (by omega) f3 (fun j a b c d => (g4 j a).trans (g3 j b c d)) e23' ⟨(g4 29 (by decide)).trans O2.1, (g4 27 (by decide)).trans O2.2.1, O2.2.2.cg (fun j _ => by rw [hI_sI, if_neg (by omega)])⟩ (by rw [hI_sI, if_pos rfl, if_pos rfl])
      have F := FR1.o.trans R1.1
      exact ⟨F.1.2.2.1, F.1.2.2.2.1, k0 _ 12 (Or.inr rfl) F R1.2⟩
  · have z := Decidable.not_not.mp z
    have eE : tkE t n q = q + 3 := by
      have z' := z.2.1
      have w3 : (wd 17).length = 3 := by decide
      rw [w3] at z'
      exact z'.symm
    have hE := (tkE_le (t := t) hq).2
    have k2 : tkK t n q = 2 := z.1
    rw [if_pos (Or.inl z), eE, if_neg (show ¬ tkK t n q = 3 by omega)] at e7
    refine m_opens (by omega) m q 9 pile T1.1 O1 hlen hdp (by decide) g2 (fun h2 f2 g3 e23 O2 => ?_)
    have HM2 := T1.1.fr f2
    have g22 := (g3 22 (by decide) (by decide) (by decide)).trans g2
    have n3 : nI q + 3 = nI (q + 3) := by rw [show (3 : Int32) = nI 3 from rfl, nI_add]
    simp only [rV_none, rt_i, rt_b0, rt_b1, rt_v, rt_l, rt_o, rt_a, rV_none, rI_some, rL_some, rR_some, rT_some, mdq_0 HM2, g22, lH_eq, n3, true_and]
    have f3 : Fr' h1 (sI h2 m 22 (nI (q + 3))) (fun c => c = m ∨ c = m + 28) := f2.trans (Fr'.sI (S := fun c => c = m ∨ c = m + 28) (Or.inl rfl))
    have g4 : ∀ j, j ≠ 22 → hI (sI h2 m 22 (nI (q + 3))) m j = hI h2 m j := fun j hj => by rw [hI_sI, if_pos rfl, if_neg hj]
    have e23' : hI (sI h2 m 22 (nI (q + 3))) m 23 = if dpt pile = 10 then rfF 0 q 2 else 0 := by
      rw [g4 23 (by decide), e23, e231]
      by_cases c : dpt pile = 10
      · rw [if_pos c, if_pos ⟨Or.inl rfl, c⟩]
      · rw [if_neg c, if_neg (fun z => c z.2)]
    have R1 := ft_open (kk := 9) (w := 3) M1 rn1 skk (Or.inl rfl) e7 (by omega) f3 (fun j a b c d => (g4 j a).trans (g3 j b c d)) e23' ⟨(g4 29 (by decide)).trans O2.1, (g4 27 (by decide)).trans O2.2.1, O2.2.2.cg (fun j _ => by rw [hI_sI, if_neg (by omega)])⟩ (by rw [hI_sI, if_pos rfl, if_pos rfl])
    have F := FR1.o.trans R1.1
    exact ⟨F.1.2.2.1, F.1.2.2.2.1, k0 _ 9 (Or.inl rfl) F R1.2⟩

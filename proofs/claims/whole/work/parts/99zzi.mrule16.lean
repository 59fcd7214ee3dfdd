theorem m_opn {d : Nat} {h : AH} {Q : Option Value → AH → Prop} (hd : 6 ≤ d) {m n r q w op pa : Nat} {t : Nat → Int32} {R : Int32 × List (List (Nat × Nat) × List (Nat × Nat))} {pile : List Nat} {cl : List (List (Nat × Nat) × List (Nat × Nat))} {su s : List (Nat × Nat)} (H : MM h m n r t (q, 8, pile, pa, cl, su, s)) (O : OP h m pile) (hop : op = 10 ∨ op = 11) (J : q + w ≤ n ∧ mInv (q + w, 7, op :: pile, pa, cl, su, s) ∧ rnM t n (q + w, 7, op :: pile, pa, cl, su, s) = R) (k : ∀ h1, ModAt h1 m → hI h1 m 22 = nI q → (∀ v, v = nI (q + w) → FRo h (sI h1 m 22 v) m r ∧ MM (sI h1 m 22 v) m n r t (q + w, 7, op :: pile, pa, cl, su, s) ∧ OP (sI h1 m 22 v) m (op :: pile)) → Q none h1) : Calls d nX12_opens [.ref m, .int (nI op)] h (hN h) (hU h) Q := by
  have I := H.2.2.2.2.2.2
  have hdp := (st7_pile I (Or.inr rfl)).2.1
  have hlen := I.1.all.1
  have e22 : hI h m 22 = nI q := H.2.1.1
  obtain ⟨T, ⟨-, hp⟩, e23, ⟨e24, hr⟩, E, e28, -⟩ := H
  refine m_opens hd m q op pile T.1 O hlen hdp (by omega) e22 (fun h1 f1 g1 e1 O1 => ?_)
  rw [if_neg (fun z => by omega), e23] at e1
  refine k h1 (T.1.fr f1) ((g1 22 (by decide) (by decide) (by decide)).trans e22) (fun v ev => ?_)
  subst ev
  have f2 : Fr' h (sI h1 m 22 (nI (q + w))) (fun c => c = m ∨ c = m + 28) := f1.trans (Fr'.sI (S := fun c => c = m ∨ c = m + 28) (Or.inl rfl))
  have g2 : ∀ j, j ≠ 22 → hI (sI h1 m 22 (nI (q + w))) m j = hI h1 m j := fun j hj => by rw [hI_sI, if_pos rfl, if_neg hj]
  have gg : ∀ j, j ≠ 22 → j ≠ 23 → j ≠ 27 → j ≠ 29 → hI (sI h1 m 22 (nI (q + w))) m j = hI h m j := fun j a b c d => (g2 j a).trans (g1 j b c d)
  have e222 : hI (sI h1 m 22 (nI (q + w))) m 22 = nI (q + w) := by rw [hI_sI, if_pos rfl, if_pos rfl]
  have e232 := (g2 23 (by decide)).trans e1
  have O2 : OP (sI h1 m 22 (nI (q + w))) m (op :: pile) := ⟨(g2 29 (by decide)).trans O1.1, (g2 27 (by decide)).trans O1.2.1, O1.2.2.cg (fun j _ => by rw [hI_sI, if_neg (by omega)])⟩
  exact ⟨⟨f2.mono (fun c z => by omega), fun j a b _ c _ d => gg j a b c d, fun j _ => ⟨f2.2.2.2.2.1 (m + 22) (by omega) j, f2.2.2.2.2.1 (m + 23) (by omega) j⟩⟩, ⟨T.fr f2 (gg 21 (by decide) (by decide) (by decide) (by decide)) (by omega), ⟨e222, J.1⟩, e232, ⟨(gg 24 (by decide) (by decide) (by decide) (by decide)).trans e24, hr⟩, E.cg (gg 26 (by decide) (by decide) (by decide) (by decide)) (f2.2.2.2.2.1 (m + 22) (by omega)) (f2.2.2.2.2.1 (m + 23) (by omega)), (gg 28 (by decide) (by decide) (by decide) (by decide)).trans e28, J.2.1⟩, O2⟩
/-- neither and nor or: the end, or a bracket -/
theorem ts_end {d E1 E2 : Nat} {Q : Option Value → AH → Prop} {h : AH} (hd : 6 ≤ d) (m n r q pa : Nat) (t : Nat → Int32) (R : Int32 × List (List (Nat × Nat) × List (Nat × Nat))) (pile : List Nat) (cl : List (List (Nat × Nat) × List (Nat × Nat))) (su s : List (Nat × Nat)) (H : MM h m n r t (q, 8, pile, pa, cl, su, s)) (O : OP h m pile) (hrn : rnM t n (q, 8, pile, pa, cl, su, s) = R) (hsk : sk t n q = q) (hO : ¬ (tkO t n q = 10 ∨ tkO t n q = 11)) (h0 : hdT pile = 0) (n1 : hN h = E1) (n2 : hU h = E2) (kq : ∀ h', FRo h h' m r → BT h' m n r t R cl su → Q none h') (k8 : ∀ h' p' pile', FRo h h' m r → MM h' m n r t (p', 8, pile', pa, cl, su, s) → OP h' m pile' → rnM t n (p', 8, pile', pa, cl, su, s) = R → dpt pile' < dpt pile → Reach d nX12_test (9, [.ref m, .int 0, .int 1, .float 0, .float 0], []) h' E1 E2 Q) : Calls d nX12_top [.ref m] h (hN h) (hU h) (fun r34 h33 => rI r34 fun x35 => (¬ (x35 : Int32) = 12 → Reach d nX12_test (9, [.ref m, .int 0, .int 0, .float 0, .float 0], []) h33 E1 E2 Q) ∧ ((x35 : Int32) = 12 → (hS h33 m).1 = 10 + 12 ∧ Calls d nX12_sign [.ref m] h33 (hN h33) (hU h33) (fun r37 h36 => rI r37 fun x38 => ((x38 : Int32) = 93 → (hS h36 m).1 = 10 + 12 ∧ (hS h36 m).1 = 10 + 12 ∧ lH (sI h36 m 22 ((hI h36 m 22) + 1)) fun h39 => (hS h39 m).1 = 10 + 12 ∧ (hS h39 m).1 = 10 + 12 ∧ lH (sI h39 m 29 ((hI h39 m 29) - 1)) fun h40 => (hS h40 m).1 = 10 + 12 ∧ (hS h40 m).1 = 10 + 12 ∧ lH (sI h40 m 27 ((hI h40 m 27) - 1)) fun h41 => Reach d nX12_test (9, [.ref m, .int 0, .int 1, .float 0, .float 0], []) h41 E1 E2 Q) ∧ (¬ (x38 : Int32) = 93 → (hS h36 m).1 = 10 + 12 ∧ (hS h36 m).1 = 10 + 12 ∧ Calls d nX12_fails [.ref m, .int 0, .int (hI h36 m 22)] h36 (hN h36) (hU h36) (fun r43 h42 => rV r43 ((hS h42 m).1 = 10 + 12 ∧ (hS h42 m).1 = 10 + 12 ∧ lH (sI h42 m 22 ((hI h42 m 22) + 1)) fun h44 => (hS h44 m).1 = 10 + 12 ∧ (hS h44 m).1 = 10 + 12 ∧ lH (sI h44 m 29 ((hI h44 m 29) - 1)) fun h45 => (hS h45 m).1 = 10 + 12 ∧ (hS h45 m).1 = 10 + 12 ∧ lH (sI h45 m 27 ((hI h45 m 27) - 1)) fun h46 => Reach d nX12_test (9, [.ref m, .int 0, .int 1, .float 0, .float 0], []) h46 E1 E2 Q)))))) := by
  have I := H.2.2.2.2.2.2
  obtain ⟨hB, hdp, -⟩ := st7_pile I (Or.inr rfl)
  have hlen := I.1.all.1
  have hBy := H.1.2.2.2.2
  have hn4 := H.1.2.2.1
  have e22 : hI h m 22 = nI q := H.2.1.1
  have hp := H.2.1.2
  have hpn : (q, 8, pile, pa, cl, su, s).1 ≤ n := hp
  refine m_top (by omega) m pile H.1.1 O hlen ?_
  rw [rI_some]
  rcases hd_0 hB h0 with e | ⟨l, e⟩
  · subst e
    exact ⟨fun _ => ts_stop (by omega) m 0 n1 n2 (kq h (FRo.refl h m r) (Or.inr ⟨q, pa, s, H, hsk, hrn, O.2.1, hO⟩)), fun z => absurd (show (-1 : Int32) = 12 from z) (by decide)⟩
  · subst e
    refine ⟨fun z => absurd rfl z, fun _ => ⟨by rw [mdq_0 H.1.1], m_sign (by omega) m n q t H.1 (by omega) e22 ?_⟩⟩
    have e29 : hI h m 29 = nI (l.length + 1) := by rw [O.1]; simp
    have e27 : hI h m 27 = nI (dpt l + 1) := by rw [O.2.1, dpt_c, if_pos (Or.inr rfl), Nat.add_comm]
    have s29 : nI (l.length + 1) - 1 = nI l.length := nI_sub1 _
    have s27 : nI (dpt l + 1) - 1 = nI (dpt l) := nI_sub1 _
    have em0 : mstep t n (q, 8, 12 :: l, pa, cl, su, s) = if (tkK t n q = 3 ∧ tkV t n q = 93) then .inr (tkE t n q, 8, l, pa, cl, su, s) else .inl (rfF 0 q 0, []) := by
      have e1 : mstep t n (q, 8, 12 :: l, pa, cl, su, s) = mgo t n (sk t n q) 8 (12 :: l) pa cl su s := rfl
      have bp : brc (12 :: l) = 1 + brc l := rfl
      have re := rst_hd (th := 0) (l := 12 :: l) (Nat.le_refl _)
      rw [e1, hsk]
      unfold mgo
      rw [if_neg (fun z => absurd rfl z.2), if_neg (fun z => by omega), if_neg (fun z => hO z.1), if_neg (fun z => by omega), re.1, re.2]
      by_cases c : tkK t n q = 3 ∧ tkV t n q = 93
      · rw [if_pos ⟨c, Or.inr rfl, by omega⟩, if_pos c, List.append_nil]
        rfl
      · rw [if_neg (fun z => c z.1), if_neg c, if_neg (fun z => by omega)]
    obtain ⟨s1, s2⟩ := sgn_eq (t := t) (n := n) (q := q) (c := 93) hBy (by decide) (by decide) (by decide) (by decide) (by decide) (by decide)
    rw [rI_some]
    have chain : ∀ h1 : AH, ModAt h1 m → hI h1 m 29 = nI (l.length + 1) → hI h1 m 27 = nI (dpt l + 1) → hI h1 m 22 = nI q → ∀ P : AH → Prop, P (sI (sI (sI h1 m 22 (nI (q + 1))) m 29 (nI l.length)) m 27 (nI (dpt l))) → ((hS h1 m).1 = 10 + 12 ∧ (hS h1 m).1 = 10 + 12 ∧ lH (sI h1 m 22 ((hI h1 m 22) + 1)) fun h39 => (hS h39 m).1 = 10 + 12 ∧ (hS h39 m).1 = 10 + 12 ∧ lH (sI h39 m 29 ((hI h39 m 29) - 1)) fun h40 => (hS h40 m).1 = 10 + 12 ∧ (hS h40 m).1 = 10 + 12 ∧ lH (sI h40 m 27 ((hI h40 m 27) - 1)) fun h41 => P h41) := fun h1 HM1 a b c P p => by
      have n2922 : ¬ (29 : Nat) = 22 := by decide
      have n2729 : ¬ (27 : Nat) = 29 := by decide
      have n2722 : ¬ (27 : Nat) = 22 := by decide
      simp only [mdq_0 HM1, a, b, c, nI_1, lH_eq, hS_sI, hI_sI, if_true, n2922, n2729, n2722, if_false, s29, s27, true_and]
      exact p
    have fr : ∀ h1 : AH, Fr' h1 (sI (sI (sI h1 m 22 (nI (q + 1))) m 29 (nI l.length)) m 27 (nI (dpt l))) (fun c => c = m) := fun h1 => ((Fr'.sI (S := fun c => c = m) rfl).trans (Fr'.sI rfl)).trans (Fr'.sI rfl)
    have gg : ∀ (h1 : AH) j, j ≠ 22 → j ≠ 27 → j ≠ 29 → hI (sI (sI (sI h1 m 22 (nI (q + 1))) m 29 (nI l.length)) m 27 (nI (dpt l))) m j = hI h1 m j := fun h1 j a b c => by rw [hI_sI, if_pos rfl, if_neg b, hI_sI, if_pos rfl, if_neg c, hI_sI, if_pos rfl, if_neg a]
    have g22 : ∀ h1 : AH, hI (sI (sI (sI h1 m 22 (nI (q + 1))) m 29 (nI l.length)) m 27 (nI (dpt l))) m 22 = nI (q + 1) := fun h1 => by rw [hI_sI, if_pos rfl, if_neg (by decide), hI_sI, if_pos rfl, if_neg (by decide), hI_sI, if_pos rfl, if_pos rfl]
    have g29 : ∀ h1 : AH, hI (sI (sI (sI h1 m 22 (nI (q + 1))) m 29 (nI l.length)) m 27 (nI (dpt l))) m 29 = nI l.length := fun h1 => by rw [hI_sI, if_pos rfl, if_neg (by decide), hI_sI, if_pos rfl, if_pos rfl]
    have g27 : ∀ h1 : AH, hI (sI (sI (sI h1 m 22 (nI (q + 1))) m 29 (nI l.length)) m 27 (nI (dpt l))) m 27 = nI (dpt l) := fun h1 => by rw [hI_sI, if_pos rfl, if_pos rfl]
    refine ⟨fun z => chain h H.1.1 e29 e27 e22 _ ?_, fun z => ⟨by rw [mdq_0 H.1.1], by rw [mdq_0 H.1.1], ?_⟩⟩
    · obtain ⟨eE, lt⟩ := s2 z
      rw [if_pos (s1.mp z), eE] at em0
      have I' := mstep_inv I hpn em0
      have rn' := (rnM_in hpn em0).symm.trans hrn
      have f := fr h
      have g := gg h
      have h22 := g22 h
      have h29 := g29 h
      have h27 := g27 h
      generalize sI (sI (sI h m 22 (nI (q + 1))) m 29 (nI l.length)) m 27 (nI (dpt l)) = h2 at *
      obtain ⟨T, -, e23, ⟨e24, hr⟩, E, e28, -⟩ := H
      refine k8 h2 (q + 1) l ⟨f.mono (fun c z => Or.inl z), fun j a _ _ b _ c => g j a b c, fun j _ => ⟨f.2.2.2.2.1 (m + 22) (by omega) j, f.2.2.2.2.1 (m + 23) (by omega) j⟩⟩ ⟨T.fr f (g 21 (by decide) (by decide) (by decide)) (by omega), ⟨h22, by omega⟩, (g 23 (by decide) (by decide) (by decide)).trans e23, ⟨(g 24 (by decide) (by decide) (by decide)).trans e24, hr⟩, E.cg (g 26 (by decide) (by decide) (by decide)) (f.2.2.2.2.1 (m + 22) (by omega)) (f.2.2.2.2.1 (m + 23) (by omega)), (g 28 (by decide) (by decide) (by decide)).trans e28, I'⟩ ⟨h29, h27, O.2.2.2.cg (fun j _ => f.2.2.2.2.1 (m + 28) (by omega) j)⟩ rn' (by rw [dpt_c, if_pos (Or.inr rfl)]; omega)
    · rw [if_neg (fun c => z (s1.mpr c))] at em0
      have eR : R = (rfF 0 q 0, []) := by rw [← hrn]; exact rnM_out hpn em0
      have ne : rfF 0 q 0 ≠ 0 := rfF_ne (fa := 0) (q := q) (c := 0) (by omega) (by omega)
      rw [e22]
      refine m_fails (by omega) m 0 q H.1.1 (fun h1 f1 g1 e1 => ?_)
      rw [rV_none]
      rw [H.2.2.1] at e1
      refine chain h1 (H.1.1.fr f1) ((g1 29 (by decide)).trans e29) ((g1 27 (by decide)).trans e27) ((g1 22 (by decide)).trans e22) _ ?_
      have f := f1.trans (fr h1)
      have g : ∀ j, j ≠ 22 → j ≠ 23 → j ≠ 27 → j ≠ 29 → hI (sI (sI (sI h1 m 22 (nI (q + 1))) m 29 (nI l.length)) m 27 (nI (dpt l))) m j = hI h m j := fun j a b c d => (gg h1 j a c d).trans (g1 j b)
      have h23 := (gg h1 23 (by decide) (by decide) (by decide)).trans e1
      have h22 := g22 h1
      generalize sI (sI (sI h1 m 22 (nI (q + 1))) m 29 (nI l.length)) m 27 (nI (dpt l)) = h2 at *
      have X : MFx h2 m n t R.1 := ⟨H.1.fr f (g 21 (by decide) (by decide) (by decide) (by decide)) (by omega), ⟨q + 1, by omega, h22⟩, by rw [eR]; exact h23, by rw [eR]; exact ne⟩
      exact tsF (by omega) m n 0 1 t R.1 X (f.2.2.1.trans n1) (f.2.2.2.1.trans n2) (kq h2 ⟨f.mono (fun c z => Or.inl z), fun j a b _ c _ d => g j a b c d, fun j _ => ⟨f.2.2.2.2.1 (m + 22) (by omega) j, f.2.2.2.2.1 (m + 23) (by omega) j⟩⟩ (Or.inl X))

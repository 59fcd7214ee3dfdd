/-! a whole term, sums -/
theorem BP.app {h : AH} {m n r st lim : Nat} {t : Nat → Int32} {R : Int32 × List (List (Nat × Nat) × List (Nat × Nat))} {pile : List Nat} {cl : List (List (Nat × Nat) × List (Nat × Nat))} {su s x : List (Nat × Nat)} (B : BP h m n r t R st pile cl su (s ++ x) lim) : BP h m n r t R st pile cl su s lim := by
  rcases B with B | ⟨p, pa, y, B⟩
  · exact Or.inl B
  · rw [List.append_assoc] at B
    exact Or.inr ⟨p, pa, x ++ y, B⟩
theorem tm_loop {d E1 E2 : Nat} {Q : Option Value → AH → Prop} (hd : 8 ≤ d) (m n r st : Nat) (t : Nat → Int32) (R : Int32 × List (List (Nat × Nat) × List (Nat × Nat))) (pile : List Nat) (cl : List (List (Nat × Nat) × List (Nat × Nat))) (su : List (Nat × Nat)) (hst : st = 1 ∨ st = 3 ∨ st = 5) (hpi : hdT pile < 6) : ∀ (w p pa : Nat) (s : List (Nat × Nat)) (h : AH), n - p ≤ w → sk t n p = p → MM h m n r t (p, st + 1, pile, pa, cl, su, s) → rnM t n (p, st + 1, pile, pa, cl, su, s) = R → hI h m 30 = 12 → hN h = E1 → hU h = E2 → (∀ h', FRm h h' m r → BP h' m n r t R (st + 1) pile cl su s 6 → Q none h') → Reach d nX12_term (8, [.ref m, .float 0], []) h E1 E2 Q := by
  intro w
  induction w using Nat.strongRecOn with
  | ind w ih =>
  intro p pa s h hw hsk H hrn e30 n1 n2 k
  have HM := H.1.1
  have hB := H.1.2.2.2.2
  have hn4 := H.1.2.2.1
  have hp := H.2.1.2
  have e22 : hI h m 22 = nI p := H.2.1.1
  have e23 : hI h m 23 = 0 := H.2.2.1
  have d5 : 5 ≤ d := by omega
  have p4 : p ≤ 1000 := by omega
  have kF : ∀ h', FRm h h' m r → MFd h' m n t R.1 → Reach d nX12_term (8, [.ref m, .float 0], []) h' E1 E2 Q := fun h' f F => tmF (by omega) m n t R.1 F (f.1.2.2.1.trans n1) (f.1.2.2.2.1.trans n2) (k h' f (Or.inl F))
  have kO : ∀ h' p' pa' x, FRm h h' m r → p < p' → sk t n p' = p' → MM h' m n r t (p', st + 1, pile, pa', cl, su, s ++ x) → rnM t n (p', st + 1, pile, pa', cl, su, s ++ x) = R → Reach d nX12_term (8, [.ref m, .float 0], []) h' E1 E2 Q := fun h' p' pa' x f lt sk' M' r' => by
    have hp' : p' ≤ n := M'.2.1.2
    exact ih (n - p') (by omega) p' pa' (s ++ x) h' (Nat.le_refl _) sk' M' r' (f.m30.trans e30) (f.1.2.2.1.trans n1) (f.1.2.2.2.1.trans n2) (fun h'' f' B => k h'' (f.trans f') B.app)
  have sg : ∀ {Q' : Option Value → AH → Prop}, Q' (some (.int (sgF t n p))) h → Calls d nX12_sign [.ref m] h (hN h) (hU h) Q' := fun q => m_sign d5 m n p t H.1 p4 e22 q
  refine wX12_term_8 (by omega) m ?_
  simp only [mdq_0 HM, e23, true_and]
  refine ⟨fun z => by first | exact absurd rfl z | exact absurd trivial z, fun _ => ?_⟩
  refine sg ?_
  simp only [rI_some, mdq_0 HM, true_and]
  refine ⟨fun c => ?_, fun c1 => sg ?_⟩
  · refine sg ?_
    simp only [rI_some, c, true_and]
    refine ⟨fun z => by first | exact absurd rfl z | exact absurd trivial z, fun _ => ?_⟩
    simp only [mdq_0 HM, e22, nI_1, lH_eq, hS_sI, true_and]
    exact tm_go hd m n r p st pa 13 42 t R pile cl su s hst hpi hsk H hrn e30 c (by decide) (by decide) (by decide) (by decide) (by decide) (by decide) (by decide) (by decide) kF kO
  · simp only [rI_some, mdq_0 HM, true_and]
    refine ⟨fun c => sg ?_, fun c2 => sg ?_⟩
    · simp only [rI_some, mdq_0 HM, true_and]
      refine ⟨fun _ => sg ?_, fun z => absurd z c1⟩
      simp only [rI_some, mdq_0 HM, true_and]
      refine ⟨fun z => absurd c z, fun _ => ?_⟩
      simp only [mdq_0 HM, e22, nI_1, lH_eq, hS_sI, true_and]
      exact tm_go hd m n r p st pa 14 47 t R pile cl su s hst hpi hsk H hrn e30 c (by decide) (by decide) (by decide) (by decide) (by decide) (by decide) (by decide) (by decide) kF kO
    · simp only [rI_some, mdq_0 HM, true_and, rt_v]
      refine ⟨fun c3 => ⟨n1, n2, k h (FRm.refl h m r) (Or.inr ⟨p, pa, [], by rw [List.append_nil]; exact H, hsk, by rw [List.append_nil]; exact hrn, tk_n6 hB c1 c2 c3⟩)⟩, fun c => sg ?_⟩
      simp only [rI_some, mdq_0 HM, true_and]
      refine ⟨fun _ => sg ?_, fun z => absurd z c1⟩
      simp only [rI_some, mdq_0 HM, true_and]
      refine ⟨fun _ => ?_, fun z => absurd z c2⟩
      simp only [mdq_0 HM, e22, nI_1, lH_eq, hS_sI, true_and]
      exact tm_go hd m n r p st pa 15 37 t R pile cl su s hst hpi hsk H hrn e30 c (by decide) (by decide) (by decide) (by decide) (by decide) (by decide) (by decide) (by decide) kF kO
/-- a term from where a value is asked -/
theorem m_term {d : Nat} {h : AH} {Q : Option Value → AH → Prop} (hd : 9 ≤ d) (m n r p st beh pa : Nat) (t : Nat → Int32) (R : Int32 × List (List (Nat × Nat) × List (Nat × Nat))) (pile : List Nat) (cl : List (List (Nat × Nat) × List (Nat × Nat))) (su s : List (Nat × Nat)) (hb : (st = 1 ∧ beh = 2) ∨ (st = 3 ∧ beh = 4) ∨ (st = 5 ∧ beh = 6) ∨ (st = 7 ∧ beh = 4)) (hpi : hdT pile < 6) (ems : mstep t n (p, st, pile, pa, cl, su, s) = mval t n (sk t n p) beh pile pa cl su s) (H : MM h m n r t (p, st, pile, pa, cl, su, s)) (hrn : rnM t n (p, st, pile, pa, cl, su, s) = R) (e30 : hI h m 30 = 12) (k : ∀ h', FRm h h' m r → BP h' m n r t R beh pile cl su s 6 → Q none h') : Calls d nX12_term [.ref m] h (hN h) (hU h) Q := by
  obtain ⟨e, rfl⟩ : ∃ e, d = e + 1 := ⟨d - 1, by omega⟩
  have hp : (p, st, pile, pa, cl, su, s).1 ≤ n := H.2.1.2
  have hbeh : ∃ b, beh = b + 1 ∧ (b = 1 ∨ b = 3 ∨ b = 5) := by
    rcases hb with ⟨-, e⟩ | ⟨-, e⟩ | ⟨-, e⟩ | ⟨-, e⟩
    · exact ⟨1, e, Or.inl rfl⟩
    · exact ⟨3, e, Or.inr (Or.inl rfl)⟩
    · exact ⟨5, e, Or.inr (Or.inr rfl)⟩
    · exact ⟨3, e, Or.inr (Or.inl rfl)⟩
  refine wX12_term (by omega) m ?_
  simp only [mdq_0 H.1.1, true_and]
  refine m_value (by omega) m n r p st beh pa pile cl su s t H hb e30 (fun h1 f1 V => ?_)
  rw [rV_none]
  cases ev : mval t n (sk t n p) beh pile pa cl su s with
  | inl z =>
    obtain ⟨f, x⟩ := z
    rw [ev] at V ems
    have eR : R = (f, x) := by rw [← hrn]; exact rnM_out hp ems
    have V : MFd h1 m n t R.1 := by rw [eR]; exact V
    refine ⟨by rw [mdq_0 V.1.1], ?_⟩
    refine m_blanksF (by omega) m n r t R.1 V (fun h2 f2 V2 => ?_)
    rw [rV_none]
    have F := f1.trans f2
    exact tmF (by omega) m n t R.1 V2 F.1.2.2.1 F.1.2.2.2.1 (k h2 F (Or.inl V2))
  | inr σ3 =>
    obtain ⟨v, e3⟩ := mval_sh ev
    subst e3
    rw [ev] at V ems
    have rn3 := (rnM_in hp ems).symm.trans hrn
    have vp : tkE t n (sk t n p) ≤ n := V.2.1.2
    refine ⟨by rw [mdq_0 V.1.1], ?_⟩
    refine m_blanks (by omega) m n (tkE t n (sk t n p)) t V.1 vp V.2.1.1 (fun h2 f2 g2 q2 => ?_)
    rw [rV_none]
    have F : FRm h h2 m r := f1.trans (FRm.m f2 (fun j a _ _ _ _ _ => g2 j a))
    have M2 := V.sk f2 g2 q2 ru_ge (ru_le vp)
    obtain ⟨b, eb, hb3⟩ := hbeh
    subst eb
    exact tm_loop (by omega) m n r b t R pile cl su hb3 hpi _ _ _ _ h2 (Nat.le_refl _) (ru_ru vp) M2 ((rn_sk vp).trans rn3) (F.m30.trans e30) F.1.2.2.1 F.1.2.2.2.1 (fun h3 f3 B => k h3 (F.trans f3) B.app)

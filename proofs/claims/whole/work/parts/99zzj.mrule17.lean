theorem bI_pos {P : Prop} {_ : Decidable P} (h : P) : bI P = 1 := if_pos h
theorem bI_neg {P : Prop} {_ : Decidable P} (h : ¬ P) : bI P = 0 := if_neg h
theorem ts_8 {d E1 E2 : Nat} {Q : Option Value → AH → Prop} {h : AH} (hd : 7 ≤ d) (m n r p pa : Nat) (t : Nat → Int32) (R : Int32 × List (List (Nat × Nat) × List (Nat × Nat))) (pile : List Nat) (cl : List (List (Nat × Nat) × List (Nat × Nat))) (su s : List (Nat × Nat)) (H : MM h m n r t (p, 8, pile, pa, cl, su, s)) (O : OP h m pile) (hrn : rnM t n (p, 8, pile, pa, cl, su, s) = R) (n1 : hN h = E1) (n2 : hU h = E2) (kq : ∀ h', FRo h h' m r → BT h' m n r t R cl su → Q none h') (k7 : ∀ h' p' pile' s', FRo h h' m r → MM h' m n r t (p', 7, pile', pa, cl, su, s') → OP h' m pile' → rnM t n (p', 7, pile', pa, cl, su, s') = R → s.length ≤ s'.length → Reach d nX12_test (9, [.ref m, .int 1, .int 1, .float 0, .float 0], []) h' E1 E2 Q) (k8 : ∀ h' p' pile' s', FRo h h' m r → MM h' m n r t (p', 8, pile', pa, cl, su, s') → OP h' m pile' → rnM t n (p', 8, pile', pa, cl, su, s') = R → s.length ≤ s'.length → dpt pile' < dpt pile → Reach d nX12_test (9, [.ref m, .int 0, .int 1, .float 0, .float 0], []) h' E1 E2 Q) : Reach d nX12_test (9, [.ref m, .int 0, .int 1, .float 0, .float 0], []) h E1 E2 Q := by
  have hB := (st7_pile H.2.2.2.2.2.2 (Or.inr rfl)).1
  have hBy := H.1.2.2.2.2
  have hn4 := H.1.2.2.1
  have hp := H.2.1.2
  refine wX12_test_9 (by omega) m 0 1 ⟨fun z => absurd z (by decide), fun _ => ⟨by rw [mdq_0 H.1.1], fun z => absurd H.2.2.1 z, fun _ => ⟨fun _ => ⟨by rw [mdq_0 H.1.1], ?_⟩, fun z => absurd rfl z⟩⟩⟩
  refine m_answers (by omega) m n r p pa 9 t R cl su (Or.inl rfl) pile s H O hrn (fun h1 s1 F1 M1 O1 r1 l1 => ?_)
  obtain ⟨b1, dp1, -, hd9⟩ := dr_ok (kk := 9) hB
  have h10 := dr_10 b1 hd9
  generalize drK 9 pile = pile1 at *
  rw [rV_none]
  refine ⟨by rw [mdq_0 M1.1.1], m_blanks (by omega) m n p t M1.1 hp M1.2.1.1 (fun h2 f2 g2 q2 => ?_)⟩
  have FR2 : FRm h1 h2 m r := FRm.m f2 (fun j a _ _ _ _ _ => g2 j a)
  have hq : sk t n p ≤ n := ru_le hp
  have M2 := M1.sk f2 g2 q2 ru_ge hq
  have O2 := O1.frm FR2
  have r2 := (rn_sk (pile := pile1) (st := 8) (pa := pa) (cl := cl) (su := su) (s := s1) hp).trans r1
  have skk : sk t n (sk t n p) = sk t n p := ru_ru hp
  have F2 := F1.trans FR2.o
  generalize sk t n p = q at *
  have T2 := M2.1
  rw [rV_none]
  refine ⟨by rw [mdq_0 T2.1], m_stood (by omega) m n q 15 17 t rfl T2 (by decide) hq q2 ?_⟩
  have iw15 := isWd_eq (t := t) (n := n) (q := q) (k := 15) (by decide) hq
  have iw16 := isWd_eq (t := t) (n := n) (q := q) (k := 16) (by decide) hq
  rw [rI_some]
  refine ⟨by rw [mdq_0 T2.1], m_stood (by omega) m n q 16 18 t rfl T2 (by decide) hq q2 ?_⟩
  rw [rI_some]
  refine ⟨by rw [mdq_0 T2.1], ?_⟩
  refine m_answers (by omega) m n r q pa 10 t R cl su (Or.inr (Or.inl rfl)) pile1 s1 M2 O2 r2 (fun h3 s3 F3 M3 O3 r3 l3 => ?_)
  obtain ⟨b3, dp3, -, -⟩ := dr_ok (kk := 10) b1
  generalize drK 10 pile1 = pile3 at *
  have F := F2.trans F3
  rw [rV_none]
  have ex : isWd t n q 15 → ¬ isWd t n q 16 := fun a b => by
    have a' := a.2.1
    have b' := b.2.1
    rw [show (wd 15).length = 3 by decide] at a'
    rw [show (wd 16).length = 2 by decide] at b'
    omega
  have n10 : ¬ (1 : Int32) = 0 := by decide
  by_cases c15 : isWd t n q 15
  · have c16 := ex c15
    have eO : tkO t n q = 10 := by unfold tkO; rw [if_neg (by rw [c15.1]; decide), if_pos c15]
    have eE : tkE t n q = q + 3 := by
      have z := c15.2.1
      rw [show (wd 15).length = 3 by decide] at z
      exact z.symm
    have J := m_join (th := 1) M3 r3 skk eO (Or.inl rfl) eE (by decide) h10
    rw [bI_pos (show eqW t q (ru isLt t n q) 15 by rw [← iw15]; exact c15), bI_neg (show ¬ eqW t q (ru isLt t n q) 16 by rw [← iw16]; exact c16)]
    refine ⟨fun _ => ⟨fun _ => ⟨fun z => absurd z n10, fun _ => ⟨by rw [mdq_0 M3.1.1], ?_⟩⟩, fun z => absurd rfl z⟩, fun z => absurd z n10⟩
    refine m_opn (by omega) M3 O3 (Or.inl rfl) J (fun h4 HM4 e4 k4 => ?_)
    rw [rV_none]
    refine ⟨by rw [mdq_0 HM4], fun z => absurd z n10, fun _ => ⟨by rw [mdq_0 HM4], ?_⟩⟩
    rw [lH_eq]
    obtain ⟨F5, M5, O5⟩ := k4 (hI h4 m 22 + 3) (by rw [e4, show (3 : Int32) = nI 3 from rfl, nI_add])
    exact k7 _ _ _ _ (F.trans F5) M5 O5 J.2.2 (by omega)
  · have eO : tkO t n q ≠ 10 := fun z => by
      have k2 := tkO_w (Or.inl z)
      unfold tkO at z
      rw [if_neg (by omega), if_neg c15] at z
      split at z <;> cases z
    rw [bI_neg (show ¬ eqW t q (ru isLt t n q) 15 by rw [← iw15]; exact c15)]
    refine ⟨fun z => absurd rfl z, fun _ => ?_⟩
    by_cases c16 : isWd t n q 16
    · have eO : tkO t n q = 11 := by unfold tkO; rw [if_neg (by rw [c16.1]; decide), if_neg c15, if_pos c16]
      have eE : tkE t n q = q + 2 := by
        have z := c16.2.1
        rw [show (wd 16).length = 2 by decide] at z
        exact z.symm
      rw [bI_pos (show eqW t q (ru isLt t n q) 16 by rw [← iw16]; exact c16)]
      refine ⟨fun z => absurd z n10, fun _ => ⟨fun z => absurd z n10, fun _ => ⟨by rw [mdq_0 M3.1.1], ?_⟩⟩⟩
      refine m_answers (by omega) m n r q pa 11 t R cl su (Or.inr (Or.inr ⟨rfl, by rw [skk]; omega⟩)) pile3 s3 M3 O3 r3 (fun h4 s4 F4 M4 O4 r4 l4 => ?_)
      obtain ⟨b4, dp4, -, -⟩ := dr_ok (kk := 11) b3
      have h0 := dr_11 b3 h10
      generalize drK 11 pile3 = pile4 at *
      have J := m_join (th := 0) M4 r4 skk eO (Or.inr rfl) eE (by decide) (by omega)
      rw [rV_none]
      refine ⟨fun _ => ⟨by rw [mdq_0 M4.1.1], ?_⟩, fun z => absurd rfl z⟩
      refine m_opn (by omega) M4 O4 (Or.inr rfl) J (fun h5 HM5 e5 k5 => ?_)
      rw [rV_none]
      refine ⟨by rw [mdq_0 HM5], fun _ => ⟨by rw [mdq_0 HM5], ?_⟩, fun z => absurd rfl z⟩
      rw [lH_eq]
      obtain ⟨F6, M6, O6⟩ := k5 (hI h5 m 22 + 2) (by rw [e5, show (2 : Int32) = nI 2 from rfl, nI_add])
      exact k7 _ _ _ _ ((F.trans F4).trans F6) M6 O6 J.2.2 (by omega)
    · have eO1 : ¬ (tkO t n q = 10 ∨ tkO t n q = 11) := fun z => by
        have k2 := tkO_w z
        unfold tkO at z
        rw [if_neg (by omega), if_neg c15, if_neg c16] at z
        rcases z with z | z <;> cases z
      rw [bI_neg (show ¬ eqW t q (ru isLt t n q) 16 by rw [← iw16]; exact c16)]
      refine ⟨fun _ => ⟨by rw [mdq_0 M3.1.1], ?_⟩, fun z => absurd rfl z⟩
      refine m_answers (by omega) m n r q pa 11 t R cl su (Or.inr (Or.inr ⟨rfl, by rw [skk]; exact eO⟩)) pile3 s3 M3 O3 r3 (fun h4 s4 F4 M4 O4 r4 l4 => ?_)
      obtain ⟨b4, dp4, -, -⟩ := dr_ok (kk := 11) b3
      have h0 := dr_11 b3 h10
      generalize drK 11 pile3 = pile4 at *
      have FF := F.trans F4
      rw [rV_none]
      refine ⟨by rw [mdq_0 M4.1.1], ?_⟩
      exact ts_end (by omega) m n r q pa t R pile4 cl su s4 M4 O4 r4 skk eO1 h0 (FF.1.2.2.1.trans n1) (FF.1.2.2.2.1.trans n2) (fun h' f' B => kq h' (FF.trans f') B) (fun h' p' pile' f' M' O' r' lt => k8 h' p' pile' s4 (FF.trans f') M' O' r' (by omega) (by omega))
def tsM (st : Nat) (pile : List Nat) (s : List (Nat × Nat)) : Nat := 100 * s.length + if st = 7 then 20 + dpt pile else 10 - dpt pile
theorem ts_loop {d E1 E2 : Nat} {Q : Option Value → AH → Prop} (hd : 12 ≤ d) (m n r : Nat) (t : Nat → Int32) (R : Int32 × List (List (Nat × Nat) × List (Nat × Nat))) (cl : List (List (Nat × Nat) × List (Nat × Nat))) (su : List (Nat × Nat)) : ∀ (w st p pa : Nat) (pile : List Nat) (s : List (Nat × Nat)) (h : AH) (v1 : Int32), 26100 - tsM st pile s ≤ w → (st = 7 ∧ v1 = 1 ∨ st = 8 ∧ v1 = 0) → MM h m n r t (p, st, pile, pa, cl, su, s) → OP h m pile → rnM t n (p, st, pile, pa, cl, su, s) = R → hI h m 30 = 12 → hN h = E1 → hU h = E2 → (∀ h', FRo h h' m r → BT h' m n r t R cl su → Q none h') → Reach d nX12_test (9, [.ref m, .int v1, .int 1, .float 0, .float 0], []) h E1 E2 Q := by
  intro w
  induction w using Nat.strongRecOn with
  | ind w ih =>
  intro st p pa pile s h v1 hw hst H O hrn e30 n1 n2 k
  have hn4 := H.1.2.2.1
  have hp := H.2.1.2
  have I := H.2.2.2.2.2.2
  have el := ent_lt rfl I (by omega)
  have el : s.length ≤ 260 := by simp at el; omega
  rcases hst with ⟨e1, e2⟩ | ⟨e1, e2⟩
  · subst e1 e2
    have hdp := (st7_pile I (Or.inl rfl)).2.1
    have m7 : tsM 7 pile s = 100 * s.length + (20 + dpt pile) := rfl
    refine wX12_test_9 (by omega) m 1 1 ⟨fun z => absurd z (by decide), fun _ => ⟨by rw [mdq_0 H.1.1], fun z => absurd H.2.2.1 z, fun _ => ⟨fun z => absurd z (by decide), fun _ => ⟨by rw [mdq_0 H.1.1], ?_⟩⟩⟩⟩
    refine m_fact hd m n r p pa t R pile cl su s H O hrn e30 (fun h1 f1 B => ?_) (fun h1 kk hkk f1 B => ?_)
    · rw [rI_some]
      refine ⟨fun _ => ?_, fun z => absurd z (by decide)⟩
      rcases B with V | ⟨p', pa', x, V, hsk', rn3, t5⟩
      · exact tsF (by omega) m n 0 1 t R.1 V.x (f1.1.2.2.1.trans n1) (f1.1.2.2.2.1.trans n2) (k h1 f1.o (Or.inl V.x))
      · have lx : s.length < (s ++ x).length := by
          cases x with
          | nil =>
            exfalso
            rw [List.append_nil] at V
            have y7 := I.2.2.2.2.1.2.2.1 (by decide)
            have y8 := V.2.2.2.2.2.2.2.2.2.2.1.2.2.1 (by decide)
            rw [y7] at y8
            have : tyL pile = true :: tyL pile := by injection y8
            have := congrArg List.length this
            simp at this
          | cons a b => simp
        have m8 : tsM 8 pile (s ++ x) = 100 * (s ++ x).length + (10 - dpt pile) := rfl
        have el2 := ent_lt rfl V.2.2.2.2.2.2 (Nat.le_trans V.2.1.2 hn4)
        have el2 : (s ++ x).length ≤ 260 := by simp at el2 ⊢; omega
        exact ih (26100 - tsM 8 pile (s ++ x)) (by omega) 8 p' pa' pile (s ++ x) h1 0 (Nat.le_refl _) (Or.inr ⟨rfl, rfl⟩) V (O.frm f1) rn3 (f1.m30.trans e30) (f1.1.2.2.1.trans n1) (f1.1.2.2.2.1.trans n2) (fun h' f' B => k h' (f1.o.trans f') B)
    · rw [rI_some]
      refine ⟨fun z => absurd rfl z, fun _ => ?_⟩
      rcases B with V | ⟨p', V, O', rn3⟩
      · exact tsF (by omega) m n 1 1 t R.1 V.x (f1.1.2.2.1.trans n1) (f1.1.2.2.2.1.trans n2) (k h1 f1 (Or.inl V.x))
      · have hdp' := (st7_pile V.2.2.2.2.2.2 (Or.inl rfl)).2.1
        have dk : dpt (kk :: pile) = 1 + dpt pile := by rw [dpt_c, if_pos hkk]
        have m7' : tsM 7 (kk :: pile) s = 100 * s.length + (20 + dpt (kk :: pile)) := rfl
        exact ih (26100 - tsM 7 (kk :: pile) s) (by omega) 7 p' pa (kk :: pile) s h1 1 (Nat.le_refl _) (Or.inl ⟨rfl, rfl⟩) V O' rn3 (f1.m30.trans e30) (f1.1.2.2.1.trans n1) (f1.1.2.2.2.1.trans n2) (fun h' f' B => k h' (f1.trans f') B)
  · subst e1 e2
    have hdp := (st7_pile I (Or.inr rfl)).2.1
    have m8 : tsM 8 pile s = 100 * s.length + (10 - dpt pile) := rfl
    refine ts_8 (by omega) m n r p pa t R pile cl su s H O hrn n1 n2 k (fun h1 p' pile' s' f1 M1 O1 r1 l1 => ?_) (fun h1 p' pile' s' f1 M1 O1 r1 l1 lt => ?_)
    · have m7' : tsM 7 pile' s' = 100 * s'.length + (20 + dpt pile') := rfl
      have el2 := ent_lt rfl M1.2.2.2.2.2.2 (Nat.le_trans M1.2.1.2 hn4)
      have el2 : s'.length ≤ 260 := by simp at el2; omega
      exact ih (26100 - tsM 7 pile' s') (by omega) 7 p' pa pile' s' h1 1 (Nat.le_refl _) (Or.inl ⟨rfl, rfl⟩) M1 O1 r1 (f1.m30.trans e30) (f1.1.2.2.1.trans n1) (f1.1.2.2.2.1.trans n2) (fun h' f' B => k h' (f1.trans f') B)
    · have m8' : tsM 8 pile' s' = 100 * s'.length + (10 - dpt pile') := rfl
      have el2 := ent_lt rfl M1.2.2.2.2.2.2 (Nat.le_trans M1.2.1.2 hn4)
      have el2 : s'.length ≤ 260 := by simp at el2; omega
      exact ih (26100 - tsM 8 pile' s') (by omega) 8 p' pa pile' s' h1 0 (Nat.le_refl _) (Or.inr ⟨rfl, rfl⟩) M1 O1 r1 (f1.m30.trans e30) (f1.1.2.2.1.trans n1) (f1.1.2.2.2.1.trans n2) (fun h' f' B => k h' (f1.trans f') B)
theorem m_test {d : Nat} {h : AH} {Q : Option Value → AH → Prop} (hd : 13 ≤ d) (m n r p pa : Nat) (t : Nat → Int32) (R : Int32 × List (List (Nat × Nat) × List (Nat × Nat))) (cl : List (List (Nat × Nat) × List (Nat × Nat))) (su : List (Nat × Nat)) (H : MM h m n r t (p, 7, [], pa, cl, su, [])) (e27 : hI h m 27 = nI 0) (hrn : rnM t n (p, 7, [], pa, cl, su, []) = R) (e30 : hI h m 30 = 12) (k : ∀ h', FRo h h' m r → BT h' m n r t R cl su → Q none h') : Calls d nX12_test [.ref m] h (hN h) (hU h) Q := by
  obtain ⟨e, rfl⟩ : ∃ e, d = e + 1 := ⟨d - 1, by omega⟩
  refine wX12_test (by omega) m ⟨by rw [mdq_0 H.1.1], ?_⟩
  rw [lH_eq]
  have f : Fr' h (sI h m 29 0) (fun c => c = m) := Fr'.sI rfl
  have g : ∀ j, j ≠ 29 → hI (sI h m 29 0) m j = hI h m j := fun j hj => by rw [hI_sI, if_pos rfl, if_neg hj]
  have e29 : hI (sI h m 29 0) m 29 = nI 0 := by rw [hI_sI, if_pos rfl, if_pos rfl]; rfl
  generalize sI h m 29 0 = h1 at *
  have F : FRo h h1 m r := ⟨f.mono (fun c z => Or.inl z), fun j _ _ _ _ _ a => g j a, fun j _ => ⟨f.2.2.2.2.1 (m + 22) (by omega) j, f.2.2.2.2.1 (m + 23) (by omega) j⟩⟩
  obtain ⟨T, ⟨e22, hp⟩, e23, ⟨e24, hr⟩, E, e28, I⟩ := H
  exact ts_loop (by omega) m n r t R cl su _ 7 p pa [] [] h1 1 (Nat.le_refl _) (Or.inl ⟨rfl, rfl⟩) ⟨T.fr f (g 21 (by decide)) (by omega), ⟨(g 22 (by decide)).trans e22, hp⟩, (g 23 (by decide)).trans e23, ⟨(g 24 (by decide)).trans e24, hr⟩, E.cg (g 26 (by decide)) (f.2.2.2.2.1 (m + 22) (by omega)) (f.2.2.2.2.1 (m + 23) (by omega)), (g 28 (by decide)).trans e28, I⟩ ⟨e29, (g 27 (by decide)).trans e27, trivial⟩ hrn (F.m30.trans e30) F.1.2.2.1 F.1.2.2.2.1 (fun h' f' B => k h' (F.trans f') B)
